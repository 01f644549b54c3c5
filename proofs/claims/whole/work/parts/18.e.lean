/-! A further node: the class's side, whole. -/
def tAt (t : Tr) (m : Nat) : Tr := ((t.1.1, m), t.2)
def CEx (σ : cS) : Prop := cln σ 17 0 = 0 ∧ (∀ e, cR σ 10 0 1 = some e → cR σ 10 1 1 = some e → e = 0) ∧ ∀ e, cR σ 10 1 1 = some e → e < cn σ 17
theorem fc_post_l {sg : Int64} {x6 : Option Nat} : ∀ (d x f : Nat) (σ : cS) (p : Nat → Nat), x + d = 40 → d < f → (∀ k, k < 40 → cI σ 12 11 k = nI (p k)) → ∃ σ', fc_X8_add_49 f σ sg x6 (nI x) = some (x6, σ') ∧ cFr [(12, 11)] σ σ' ∧ cn σ' = cn σ ∧ cR σ' = cR σ ∧ ∀ k, k < 40 → cI σ' 12 11 k = nI (p k + if x ≤ k ∧ sHas sg k = true then 1 else 0) := by
  intro d
  induction d with
  | zero =>
    intro x f σ p hx hf hp
    obtain ⟨f, rfl⟩ : ∃ k, f = k + 1 := ⟨f - 1, by omega⟩
    obtain rfl : x = 40 := by omega
    rw [fc_X8_add_49, if_pos (by decide)]
    refine ⟨σ, rfl, cFr.rf _ _, rfl, rfl, fun k hk => ?_⟩
    rw [if_neg (by omega), hp k hk]
    rfl
  | succ d ih =>
    intro x f σ p hx hf hp
    obtain ⟨f, rfl⟩ : ∃ k, f = k + 1 := ⟨f - 1, by omega⟩
    have x1 : ¬ 40 ≤ x := by omega
    have c1 : (nI x).toNatClampNeg = x := jCl (by omega)
    rw [fc_X8_add_49]
    unfold fc_X8_add_76
    simp (disch := omega) only [show ((40 : Int32) = nI 40) from rfl, n0, n1, jLe, jLt, x1, c1, Nat.not_lt_zero, false_or, if_false, fc_includes_s (show x < 40 by omega), Option.bind_some, bI_if0, hp x (by omega), jAdd]
    by_cases q : sHas sg x = true
    · rw [if_pos q]
      obtain ⟨σ', g1, g2, g3, g4, g5⟩ := ih (x + 1) f (uI σ 12 11 x (nI (p x + 1))) (fun k => if k = x then p k + 1 else p k) (by omega) (by omega) (fun k hk => by
        rw [uI_at]
        by_cases e : k = x
        · rw [if_pos e, e]
          show _ = nI (if x = x then p x + 1 else p x)
          rw [if_pos rfl]
        · rw [if_neg e, hp k hk]
          show _ = nI (if k = x then p k + 1 else p k)
          rw [if_neg e])
      refine ⟨σ', g1, (cFr.I (List.mem_singleton.mpr rfl)).tr g2, g3, g4, fun k hk => ?_⟩
      rw [g5 k hk]
      congr 1
      show (if k = x then p k + 1 else p k) + _ = _
      by_cases e : k = x
      · rw [if_pos e, if_neg (by omega), if_pos ⟨by omega, by rw [e]; exact q⟩]
      · rw [if_neg e]
        congr 1
        by_cases z : x + 1 ≤ k ∧ sHas sg k = true
        · rw [if_pos z, if_pos ⟨by omega, z.2⟩]
        · rw [if_neg z, if_neg (fun h => z ⟨by omega, h.2⟩)]
    · rw [if_neg q]
      obtain ⟨σ', g1, g2, g3, g4, g5⟩ := ih (x + 1) f σ p (by omega) (by omega) hp
      refine ⟨σ', g1, g2, g3, g4, fun k hk => ?_⟩
      rw [g5 k hk]
      congr 2
      by_cases z : x + 1 ≤ k ∧ sHas sg k = true
      · rw [if_pos z, if_pos ⟨by omega, z.2⟩]
      · rw [if_neg z, if_neg (fun h => ?_)]
        by_cases e : k = x
        · rw [e] at h; exact q h.2
        · exact z ⟨by omega, h.2⟩
theorem CLs.fr {ps : List (Nat × Nat)} {σ σ' : cS} {l n k : Nat} (h : CLs σ l n k) (hf : cFr ps σ σ') (h10 : (10, l) ∉ ps) (h17 : ∀ e, cR σ 10 l 1 = some e → (17, e) ∉ ps) : CLs σ' l n k ∧ cR σ' 10 l 1 = cR σ 10 l 1 := by
  obtain ⟨h1, h2, e, h3, h4, h5, h6, h7, h8⟩ := h
  obtain ⟨a1, -, a3⟩ := (hf.2 10 l h1).2.2 h10
  obtain ⟨b0, b1, b2⟩ := hf.2 17 e h4
  obtain ⟨-, -, b3⟩ := b2 (h17 e h3)
  refine ⟨⟨Nat.lt_of_lt_of_le h1 (hf.1 10), by rw [a1]; exact h2, e, by rw [a3]; exact h3, Nat.lt_of_lt_of_le h4 (hf.1 17), by rw [b0]; exact h5, fun z => by rw [b1 rfl]; exact h6 z, fun i hi => by rw [b3]; exact h7 i hi, by rw [b0]; exact h8⟩, by rw [a3]⟩
section E18
variable {w : Wd} {t : Tr} {σ : cS} {s : St} {sg : Int64} {q : Cm} {c : Nat}
theorem fc_current_g {n m : Nat} (h : CLs σ 0 n 7) (hh : cI σ 4 0 2 = nI m) (hm : m < n) (hb : n < 100000) (h7 : m < cn σ 7) : fc_X8_current σ = some (some m, σ) := by
  unfold fc_X8_current
  rw [hh, h.get hm hb, Option.bind_some]
  simp only [lvq_mk h7, if_false]
theorem fc_add28_run {σ1 σ2 σ3 σ4 : cS} {N : Nat} {pa : Option Nat} (l1 : N < cn σ1 7) (b1 : fc_X2_init σ1 (some N) (nI N) pa (some c) (some 0) sg = some σ2) (l2 : N < cn σ2 7) (k1 : fc_Jx4a65c_add_9ea2d σ2 (some 0) (some N) 7 = some (1, σ3)) (p1 : fc_X8_add_49 3000 σ3 sg (some N) 0 = some (some N, σ4)) : fc_X8_add_28 σ1 (some c) (some 0) sg pa (nI N) (some N) (some N) = some (some N, σ4) := by
  unfold fc_X8_add_28
  generalize 3000 = F at p1 ⊢
  rw [dr_mk l1, Option.bind_some, if_neg (fun h => h (decide_eq_true l1)), b1, Option.bind_some, if_neg (fun h => h (decide_eq_true l2)), k1, Option.bind_some]
  exact p1
theorem fc_add_s (ht : Tr.ok w t) (hC : CTr σ t) (hL : cLbs σ) (hE : CEx σ) (hN : t.N < 80) (hc : RCm σ c q) (h6 : RSt σ 0 s) : ∃ σ', fc_X8_add σ (some c) (some 0) sg = some (some t.N, σ') ∧ CTr σ' (tAt (tAdd t s sg q) t.now) ∧ CEx σ' ∧ (∃ e, cR σ 10 1 1 ≠ some e ∧ cFr [(10, 0), (17, e), (12, 11)] σ σ') ∧ ∀ k, k ∉ ([6, 7, 12, 13, 17] : List Nat) → cn σ' k = cn σ k := by
  obtain ⟨⟨C1, C2, C3, C4, C5, C6⟩, CN, CP⟩ := hC
  have hC : CTr σ t := ⟨⟨C1, C2, C3, C4, C5, C6⟩, CN, CP⟩
  obtain ⟨E1, E2, E3⟩ := hE
  obtain ⟨e0, he0⟩ : ∃ e0, cR σ 10 0 1 = some e0 := ⟨_, C2.2.2.choose_spec.1⟩
  have he0n : e0 < cn σ 17 := by
    obtain ⟨-, -, e, h3, h4, -⟩ := C2
    rw [he0] at h3
    rw [Option.some.inj h3]; exact h4
  obtain ⟨σ1, s1⟩ : ∃ σ1, σ1 = uN σ 7 0 0 := ⟨_, rfl⟩
  have m1 : ∀ k, cn σ1 k = if k = 7 then cn σ 7 + 1 else cn σ k := fun k => by rw [s1, cn_uN]
  have f1 : ∀ ps, cFr ps σ σ1 := fun ps => by rw [s1]; exact cFr.N
  have g1 : ∀ k, cn σ k ≤ cn σ1 k := (f1 []).1
  have CL1 : CLs σ1 0 t.N 7 := (C2.fr (f1 []) (by intro h; cases h) (fun e _ h => by cases h)).1
  have cR1 : cR σ1 10 = cR σ 10 := by rw [s1]; funext a b; rw [zR_uN, if_neg (fun z => absurd z.1 (by decide))]
  have cI1 : cI σ1 4 0 2 = nI t.now := by rw [s1, zI_uN, if_neg (fun z => absurd z.1 (by decide))]; exact C1
  obtain ⟨pa, hpa⟩ : ∃ pa, pa = if t.N = 0 then none else some t.now := ⟨_, rfl⟩
  have lpa : lvq σ1 7 pa = true := by
    rw [hpa]
    by_cases z : t.N = 0
    · rw [if_pos z]; rfl
    · rw [if_neg z]
      have := ht.1.2.1 (by omega)
      exact decide_eq_true (by rw [m1, if_pos rfl]; omega)
  obtain ⟨σ2, b1, b2, b3, b4, b5⟩ := fc_X2init_s (σ := σ1) (j := t.N) (i := cn σ1 6) (num := t.N) (c := c) (pa := pa) (s := s) (sg := sg) (by rw [m1, if_pos rfl, C3]; omega) lpa (Nat.lt_of_lt_of_le hc.1 (g1 8)) rfl (by rw [m1, if_neg (by decide), C4]; omega) (by rw [m1, if_neg (by decide), m1, if_neg (by decide), C5, C4]; omega) (by rw [m1, if_neg (by decide), m1, if_neg (by decide), C6, C4]; omega) (h6.fr (f1 []) (fun q hq => by cases hq)) (by rw [s1, zJ_uN, if_pos ⟨rfl, C3.symm⟩])
  have i6 : cn σ1 6 = t.N + 1 := by rw [m1, if_neg (by decide), C4]
  have F2 : cFr [] σ σ2 := by
    have h : cFr [(7, t.N)] σ σ2 := (f1 _).tr b4
    exact h.ge (by omega)
  have cnt2 : ∀ k, cn σ2 k = if k = 7 then t.N + 1 else if k = 6 then t.N + 2 else if k = 12 then 15 + 2 * (t.N + 1) else if k = 13 then 2 + (t.N + 1) else cn σ k := by
    intro k
    rw [b5, i6, m1, m1, m1, C3, C5, C6]
    by_cases k7 : k = 7
    · subst k7; rfl
    · rw [if_neg k7]
      by_cases k6 : k = 6
      · subst k6; rfl
      · rw [if_neg k6, if_neg k6]
        by_cases k12 : k = 12
        · subst k12
          show 15 + 2 * t.N + 2 = 15 + 2 * (t.N + 1)
          omega
        · rw [if_neg k12, if_neg k12]
          by_cases k13 : k = 13
          · subst k13
            show 2 + t.N + 1 = 2 + (t.N + 1)
            omega
          · rw [if_neg k13, if_neg k13, if_neg k7]
  obtain ⟨CL2, cR2⟩ := C2.fr F2 (by intro h; cases h) (fun e _ h => by cases h)
  have cR2b : cR σ2 10 1 1 = cR σ 10 1 1 := congrFun ((F2.2 10 1 (Nat.lt_of_lt_of_le (by decide) (hL 10 (by decide)))).2.2 (by intro h; cases h)).2.2 1
  have e17 : cln σ2 17 0 = 0 := by rw [(F2.2 17 0 (Nat.lt_of_lt_of_le (by decide) (hL 17 (by decide)))).1]; exact E1
  obtain ⟨σ3, k1, k2, k3, k4, k5⟩ := fc_ladd_s (σ := σ2) (e := e0) CL2 (Or.inl rfl) (by omega) (by rw [cnt2, if_pos rfl]; omega) e17 (Nat.lt_of_lt_of_le (Nat.lt_of_lt_of_le (by decide) (hL 17 (by decide))) (F2.1 17)) (by rw [cR2]; exact he0)
  -- what the addition has changed
  have fr3 : ∃ e, cR σ 10 1 1 ≠ some e ∧ cFr [(10, 0), (17, e)] σ2 σ3 := by
    rcases k5 with ⟨h1, h2, h3⟩ | ⟨h1, h2⟩
    · exact ⟨e0, fun h => h2 (E2 e0 he0 h), h3⟩
    · exact ⟨cn σ 17, fun h => Nat.lt_irrefl _ (E3 _ h), h2.wk (fun q hq => by rw [List.mem_singleton] at hq; rw [hq]; exact List.mem_cons_self)⟩
  obtain ⟨e, ne, F3⟩ := fr3
  have F23 : cFr [(10, 0), (17, e)] σ σ3 := (F2.wk (fun q hq => by cases hq)).tr F3
  have post3 : ∀ k, k < 40 → cI σ3 12 11 k = nI (sCnt (posP t k) 0 t.N) := by
    intro k hk
    have := ((F23.2 12 11 (Nat.lt_of_lt_of_le (by decide) (hL 12 (by decide)))).2.2 (by simp)).1
    rw [this]
    exact CP k hk
  obtain ⟨σ4, p1, p2, p3, p4, p5⟩ := fc_post_l (sg := sg) (x6 := some t.N) 40 0 3000 σ3 (fun k => sCnt (posP t k) 0 t.N) (by omega) (by omega) post3
  have F34 : cFr [(10, 0), (17, e), (12, 11)] σ2 σ4 := (F3.wk (fun q hq => by simp at hq ⊢; rcases hq with h | h <;> simp [h])).tr (p2.wk (fun q hq => by rw [List.mem_singleton] at hq; rw [hq]; simp))
  have FF : cFr [(10, 0), (17, e), (12, 11)] σ σ4 := (F2.wk (fun q hq => by cases hq)).tr F34
  have cnt4 : ∀ k, k ≠ 17 → cn σ4 k = cn σ2 k := fun k hk => by rw [p3]; exact k4 k hk
  refine ⟨σ4, ?_, ⟨⟨?_, ?_, ?_, ?_, ?_, ?_⟩, ?_, ?_⟩, ⟨?_, ?_, ?_⟩, ⟨e, ne, FF⟩, ?_⟩
  · unfold fc_X8_add
    rw [C2.size, Option.bind_some]
    simp only [lvq_mk hc.1, lvq_mk h6.1.1, if_false]
    have tail : fc_X8_add_28 σ1 (some c) (some 0) sg pa (nI t.N) (some (cn σ 7)) (some (cn σ 7)) = some (some t.N, σ4) := by
      rw [C3]
      exact fc_add28_run (by rw [m1, if_pos rfl, C3]; omega) b1 (by rw [cnt2, if_pos rfl]; omega) k1 p1
    rw [← s1]
    by_cases z : t.N = 0
    · rw [if_pos (by rw [z]; rfl)]
      rw [hpa, if_pos z] at tail
      exact tail
    · have hn := ht.1.2.1 (by omega)
      rw [if_neg (show ¬ nI t.N = 0 by rw [n0, jEq (by omega) (by omega)]; exact z)]
      rw [fc_current_g CL1 cI1 hn (by omega) (by rw [m1, if_pos rfl, C3]; omega), Option.bind_some]
      rw [hpa, if_neg z] at tail
      exact tail
  · show cI σ4 4 0 2 = nI t.now
    rw [((FF.2 4 0 (Nat.lt_of_lt_of_le (by decide) (hL 4 (by decide)))).2.2 (by simp)).1]
    exact C1
  · show CLs σ4 0 (t.N + 1) 7
    exact (k2.fr p2 (by simp) (fun e _ h => by simp at h)).1
  · show cn σ4 7 = t.N + 1
    rw [cnt4 7 (by decide), cnt2, if_pos rfl]
  · show cn σ4 6 = t.N + 1 + 1
    rw [cnt4 6 (by decide), cnt2]; rfl
  · show cn σ4 12 = 15 + 2 * (t.N + 1)
    rw [cnt4 12 (by decide), cnt2]; rfl
  · show cn σ4 13 = 2 + (t.N + 1)
    rw [cnt4 13 (by decide), cnt2]; rfl
  · intro n hn
    have hn : n < t.N + 1 := hn
    show cI σ4 7 n 0 = nI n ∧ cR σ4 7 n 1 = (if n = 0 then none else some ((tAdd t s sg q).par n)) ∧ cR σ4 7 n 3 = some (n + 1) ∧ cJ σ4 7 n 4 = (tAdd t s sg q).sh n ∧ cJ σ4 7 n 5 = pack ((tAdd t s sg q).lb n) ∧ RSt σ4 (n + 1) ((tAdd t s sg q).st n) ∧ ∃ c, cR σ4 7 n 2 = some c ∧ RCm σ4 c ((tAdd t s sg q).cm n)
    rw [tAdd_par, tAdd_sh, tAdd_lb, tAdd_st, tAdd_cm]
    by_cases z : n = t.N
    · simp only [if_pos z]
      rw [z]
      obtain ⟨r0, r1, r2, r3, r4, r5⟩ := b2
      obtain ⟨q1, q2, q3⟩ := (F34.2 7 t.N (by rw [cnt2, if_pos rfl]; omega)).2.2 (by simp)
      rw [q1, q2, q3]
      refine ⟨r0, by rw [r1]; exact hpa, by rw [r3, i6], r4, by rw [r5]; rfl, ?_, c, r2, ?_⟩
      · rw [← i6]
        exact b3.fr F34 (fun q hq => by simp at hq; unfold cSc; rcases hq with rfl | rfl | rfl <;> simp; omega)
      · exact (hc.fr F2 (by simp)).fr F34 (by simp)
    · simp only [if_neg z]
      obtain ⟨r0, r1, r2, r3, r4, r5, c', r6, r7⟩ := CN n (by omega)
      obtain ⟨q1, q2, q3⟩ := (FF.2 7 n (by rw [C3]; omega)).2.2 (by simp)
      rw [q1, q2, q3]
      refine ⟨r0, r1, r2, r3, r4, ?_, c', r6, ?_⟩
      · exact r5.fr FF (fun q hq => by simp at hq; unfold cSc; rcases hq with rfl | rfl | rfl <;> simp; omega)
      · exact r7.fr FF (by simp)
  · intro k hk
    rw [p5 k hk]
    congr 1
    show _ = sumR 0 (t.N + 1) fun n => if sHas ((tAdd t s sg q).sh n) k = true then 1 else 0
    rw [sumR_add _ 1 t.N 0, sumR_s, sumR_0, tAdd_sh, if_pos (Nat.zero_add _)]
    congr 1
    · unfold sCnt
      refine sumR_congr _ _ fun y _ hy => ?_
      have e : (tAdd t s sg q).sh y = t.sh y := if_neg (show ¬ y = t.N by omega)
      show _ = if sHas ((tAdd t s sg q).sh y) k = true then 1 else 0
      rw [e]
      rfl
    · by_cases z : sHas sg k = true
      · rw [if_pos z, if_pos ⟨Nat.zero_le _, z⟩]
      · rw [if_neg z, if_neg (fun h => z h.2)]
  · rw [(FF.2 17 0 (Nat.lt_of_lt_of_le (by decide) (hL 17 (by decide)))).1]; exact E1
  · intro x hx hx1
    have h1 : cR σ4 10 1 1 = cR σ 10 1 1 := congrFun ((FF.2 10 1 (Nat.lt_of_lt_of_le (by decide) (hL 10 (by decide)))).2.2 (by simp)).2.2 1
    rw [h1] at hx1
    rw [p4] at hx
    rcases k5 with ⟨h2, h3, h4⟩ | ⟨h2, h4⟩
    · rw [h2] at hx
      have := Option.some.inj hx
      rw [← this] at hx1
      exact absurd (E2 e0 he0 hx1) h3
    · rw [h2] at hx
      have := Option.some.inj hx
      have h5 := E3 _ hx1
      have h6 := F2.1 17
      omega
  · intro x hx
    have h1 : cR σ4 10 1 1 = cR σ 10 1 1 := congrFun ((FF.2 10 1 (Nat.lt_of_lt_of_le (by decide) (hL 10 (by decide)))).2.2 (by simp)).2.2 1
    rw [h1] at hx
    exact Nat.lt_of_lt_of_le (E3 x hx) (FF.1 17)
  · intro k hk
    simp at hk
    rw [cnt4 k (by omega), cnt2, if_neg (by omega), if_neg (by omega), if_neg (by omega), if_neg (by omega)]
end E18
