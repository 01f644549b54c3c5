/-! To buy: both sides. -/
/-- a hint sold at a node -/
def pBuy (p : Sp) (h n : Nat) (c : Int32) : Sp := ((p.H, p.S + 1), (p.co - c, p.ea), p.ba, p.te, (fun s => if s = p.S then h else p.sh s), (fun s => if s = p.S then n else p.sn s), fun s => if s = p.S then c else p.sc s)
section P20
variable {g : Gm} {σ σ1 : cS} {τ τ1 : mS} {w : Wd} {t : Tr} {p : Sp} {h n : Nat} {c : Int32}
theorem pBuy_e (s : Nat) : (pBuy p h n c).sh s = (if s = p.S then h else p.sh s) ∧ (pBuy p h n c).sn s = (if s = p.S then n else p.sn s) ∧ (pBuy p h n c).sc s = (if s = p.S then c else p.sc s) := ⟨rfl, rfl, rfl⟩
theorem paid_buy : ∀ s, s ≤ p.S → Sp.paid (pBuy p h n c) s = Sp.paid p s := by
  intro s
  induction s with
  | zero => intro _; rfl
  | succ s ih =>
    intro hs
    show Sp.paid (pBuy p h n c) s + (pBuy p h n c).sc s = Sp.paid p s + p.sc s
    rw [ih (by omega), (pBuy_e s).2.2, if_neg (by omega)]
theorem owned_no {s : Nat} (ho : ¬ sOwn t p 0 p.S h = true) (hs : s < p.S) (e : p.sh s = h) : sOnP t (p.sn s) t.now = false ∧ sOnP t t.now (p.sn s) = false := by
  have : ¬ (decide (p.sh s = h) && (sOnP t (p.sn s) t.now || sOnP t t.now (p.sn s))) = true := fun z => ho (List.any_eq_true.mpr ⟨s, by rw [List.mem_range'_1]; omega, z⟩)
  rw [decide_eq_true e, Bool.true_and] at this
  have := Bool.eq_false_iff.mpr this
  exact Bool.or_eq_false_iff.mp this
theorem Sp.ok.buy {s : St} {sg : Int64} (ht : Tr.ok w t) (h0 : 0 < t.N) (hN : t.N < 80) (hp : Sp.ok w t p) (hh : h < p.H) (ho : ¬ sOwn t p 0 p.S h = true) : Sp.ok w (tAdd t s sg (12, some h, none)) (pBuy p h t.N c) := by
  obtain ⟨⟨s0, s1⟩, s2, s3, s4, s5, s6, s7⟩ := hp
  have hn := ht.1.2.1 h0
  have eS : (pBuy p h t.N c).S = p.S + 1 := rfl
  have ht' : ∀ n, n < t.N → ∀ m ∈ sPath t n, m < t.N := fun n hn m hm => by
    rcases mem_dep ht n hn hm with z | z
    · omega
    · exact z.1
  have pN : sPath (tAdd t s sg (12, some h, none)) t.N = t.N :: sPath t t.now := by
    show pthF (tAdd t s sg (12, some h, none)).par (t.N + 1) t.N = _
    show (t.N :: if t.N = 0 then [] else pthF (tAdd t s sg (12, some h, none)).par t.N ((tAdd t s sg (12, some h, none)).par t.N)) = _
    rw [if_neg (by omega), tAdd_par, if_pos rfl, pth_add ht _ _ hn]
    congr 1
    exact pthF_fuel ht.2.1 _ _ _ hn hn (by omega)
  refine ⟨⟨s0, by rw [eS, tAdd_N]; omega⟩, s2, s3, fun i hi => ?_, fun i j hi hj he => ?_, fun n h0' hn' h12 => ?_, ?_⟩
  · rw [eS] at hi
    obtain ⟨e1, e2, e3⟩ := pBuy_e (p := p) (h := h) (n := t.N) (c := c) i
    rw [e1, e2, tAdd_N]
    by_cases z : i = p.S
    · rw [if_pos z, if_pos z]
      exact ⟨hh, h0, by omega⟩
    · rw [if_neg z, if_neg z]
      obtain ⟨x1, x2, x3⟩ := s4 i (by omega)
      exact ⟨x1, x2, by omega⟩
  · rw [eS] at hj
    obtain ⟨e1, e2, e3⟩ := pBuy_e (p := p) (h := h) (n := t.N) (c := c) i
    obtain ⟨f1, f2, f3⟩ := pBuy_e (p := p) (h := h) (n := t.N) (c := c) j
    rw [e1, f1, if_neg (by omega)] at he
    rw [e2, f2, if_neg (by omega)]
    have hiN := (s4 i (by omega)).2.2
    by_cases z : j = p.S
    · rw [if_pos z] at he ⊢
      obtain ⟨o1, o2⟩ := owned_no ho (by omega) he
      refine ⟨?_, ?_⟩
      · unfold sOnP
        rw [pN, List.contains_cons]
        have : (p.sn i == t.N) = false := by rw [beq_eq_false_iff_ne]; omega
        rw [this, Bool.false_or]
        exact o1
      · rw [onP_add ht hiN]
        unfold sOnP
        refine Bool.eq_false_iff.mpr (fun q => ?_)
        rw [List.contains_iff_mem] at q
        have := ht' _ hiN _ q
        omega
    · rw [if_neg z] at he ⊢
      have hjN := (s4 j (by omega)).2.2
      rw [onP_add ht hjN, onP_add ht hiN]
      exact s5 i j hi (by omega) he
  · rw [tAdd_N] at hn'
    rw [tAdd_cm] at h12 ⊢
    by_cases z : n = t.N
    · rw [if_pos z]
      refine ⟨p.S, by rw [eS]; omega, ?_, ?_⟩
      · rw [(pBuy_e p.S).2.1, if_pos rfl, z]
      · rw [(pBuy_e p.S).1, if_pos rfl]
    · rw [if_neg z] at h12 ⊢
      obtain ⟨i, x1, x2, x3⟩ := s6 n h0' (by omega) h12
      refine ⟨i, by rw [eS]; omega, ?_, ?_⟩
      · rw [(pBuy_e i).2.1, if_neg (by omega)]; exact x2
      · rw [(pBuy_e i).1, if_neg (by omega)]; exact x3
  · show Sp.paid (pBuy p h t.N c) p.S + (pBuy p h t.N c).sc p.S + (p.co - c) = 100 + p.ea
    rw [paid_buy _ (Nat.le_refl _), (pBuy_e p.S).2.2, if_pos rfl, ← s7, Int32.add_assoc, Int32.add_comm c, Int32.sub_add_cancel]
/-- what a sale changes of the class's tree -/
theorem CTr.fb {e : Nat} {S : Nat} (hC : CTr σ t) (hf : cFr [(5, 0), (9, S), (10, 1), (17, e)] σ σ1) (hL : cLbs σ) (he : ∀ e0, cR σ 10 0 1 = some e0 → e ≠ e0) (hc : ∀ k, k ≠ 9 → k ≠ 17 → cn σ1 k = cn σ k) : CTr σ1 t := by
  obtain ⟨⟨C1, C2, C3, C4, C5, C6⟩, CN, CP⟩ := hC
  refine ⟨⟨?_, (C2.fr hf (by simp) (fun e0 h0 hq => ?_)).1, (hc 7 (by decide) (by decide)).trans C3, (hc 6 (by decide) (by decide)).trans C4, (hc 12 (by decide) (by decide)).trans C5, (hc 13 (by decide) (by decide)).trans C6⟩, ?_, ?_⟩
  · rw [((hf.2 4 0 (Nat.lt_of_lt_of_le (by decide) (hL 4 (by decide)))).2.2 (by simp)).1]; exact C1
  · simp at hq
    exact he e0 h0 hq.symm
  · intro n hn
    obtain ⟨r0, r1, r2, r3, r4, r5, c', r6, r7⟩ := CN n hn
    obtain ⟨a1, a2, a3⟩ := (hf.2 7 n (by rw [C3]; exact hn)).2.2 (by simp)
    rw [a1, a2, a3]
    exact ⟨r0, r1, r2, r3, r4, r5.fr hf (fun q hq => by simp at hq; unfold cSc; rcases hq with rfl | rfl | rfl | rfl <;> simp), c', r6, r7.fr hf (by simp)⟩
  · intro k hk
    rw [((hf.2 12 11 (Nat.lt_of_lt_of_le (by decide) (hL 12 (by decide)))).2.2 (by simp)).1]
    exact CP k hk
theorem CR.sell (hC : CR σ g) (hS : g.p.S < 80) (hn : n < g.t.N) (c : Int32) (h : Nat) : ∃ σ7 σ8, fc_X4_init (uN (uI σ 5 0 4 (g.p.co - c)) 9 0 0) (some g.p.S) (nI h) (some n) c = some σ7 ∧ fc_Jx4a65c_add_9ea2d σ7 (some 1) (some g.p.S) 9 = some (1, σ8) ∧ CR σ8 (g.w, g.l, g.t, pBuy g.p h n c) := by
  obtain ⟨r1, r2, r3, ⟨⟨a1, a2, a3, a4, a5⟩, b, cc, d⟩, ⟨⟨E1, E2, E3⟩, hsb⟩, hL, r7, s0, r8⟩ := hC
  obtain ⟨σ6, h6⟩ : ∃ σ6, σ6 = uN (uI σ 5 0 4 (g.p.co - c)) 9 0 0 := ⟨_, rfl⟩
  have m6 : ∀ k, cn σ6 k = if k = 9 then g.p.S + 1 else cn σ k := fun k => by
    rw [h6]
    show (if k = 9 then cn σ 9 + 1 else cn σ k) = _
    rw [a5]
  obtain ⟨σ7, h7⟩ : ∃ σ7, σ7 = uI (uR (uI σ6 9 g.p.S 0 (nI h)) 9 g.p.S 1 (some n)) 9 g.p.S 2 c := ⟨_, rfl⟩
  have m7 : cn σ7 = cn σ6 := by rw [h7]; rfl
  have F : cFr [(5, 0), (9, g.p.S)] σ σ7 := by
    rw [h7, h6]
    exact ((((cFr.I (by simp)).tr cFr.N).tr (cFr.I (by simp))).tr (cFr.R (by simp))).tr (cFr.I (by simp))
  have i7 : cn σ 7 = g.t.N := r3.1.2.2.1
  have e7 : fc_X4_init σ6 (some g.p.S) (nI h) (some n) c = some σ7 := by
    unfold fc_X4_init
    rw [dr_mk (show g.p.S < cn σ6 9 by rw [m6, if_pos rfl]; omega), Option.bind_some, if_neg, h7]
    exact fun z => z (decide_eq_true (show n < cn σ6 7 by rw [m6, if_neg (by decide), i7]; exact hn))
  obtain ⟨CL7, cR7⟩ := a4.fr F (by simp) (fun e _ => by simp)
  obtain ⟨e1, he1⟩ : ∃ e1, cR σ 10 1 1 = some e1 := ⟨_, a4.2.2.choose_spec.1⟩
  have h17 : 0 < cn σ 17 := Nat.lt_of_lt_of_le (by decide) (hL 17 (by decide))
  obtain ⟨σ8, k1, k2, k3, k4, k5⟩ := fc_ladd_s (σ := σ7) (e := e1) CL7 (Or.inr rfl) (by omega) (by rw [m7, m6, if_pos rfl]; omega) (by rw [(F.2 17 0 h17).1]; exact E1) (Nat.lt_of_lt_of_le h17 (F.1 17)) (by rw [cR7]; exact he1)
  have he0 : ∀ e0, cR σ 10 0 1 = some e0 → e0 < cn σ 17 := by
    intro e0 h0
    obtain ⟨-, -, e, q1, q2, -⟩ := r3.1.2.1
    rw [h0] at q1
    rw [Option.some.inj q1]
    exact q2
  have i17 : cn σ7 17 = cn σ 17 := by rw [m7, m6, if_neg (by decide)]
  have key : ∃ e, (∀ e0, cR σ 10 0 1 = some e0 → e ≠ e0) ∧ cFr [(10, 1), (17, e)] σ7 σ8 ∧ (∀ e0, cR σ 10 0 1 = some e0 → cR σ8 10 1 1 = some e0 → e0 = 0) := by
    rcases k5 with ⟨q1, q2, q3⟩ | ⟨q1, q2⟩
    · refine ⟨e1, fun e0 h0 z => q2 (E2 e1 (by rw [z]; exact h0) he1), q3, fun e0 h0 h1 => ?_⟩
      rw [q1] at h1
      rw [← Option.some.inj h1] at h0 ⊢
      exact E2 e1 h0 he1
    · refine ⟨cn σ 17, fun e0 h0 z => by have := he0 e0 h0; omega, q2.wk (fun q hq => by rw [List.mem_singleton] at hq; rw [hq]; exact List.mem_cons_self), fun e0 h0 h1 => ?_⟩
      rw [q1] at h1
      have := he0 e0 h0
      have := Option.some.inj h1
      omega
  obtain ⟨e, ne, FL, nx⟩ := key
  have FF : cFr [(5, 0), (9, g.p.S), (10, 1), (17, e)] σ σ8 := (F.wk (fun q hq => by simp at hq ⊢; rcases hq with z | z <;> simp [z])).tr (FL.wk (fun q hq => by simp at hq ⊢; rcases hq with z | z <;> simp [z]))
  have cnt : ∀ k, k ≠ 9 → k ≠ 17 → cn σ8 k = cn σ k := fun k h9 h17 => by rw [k4 k h17, m7, m6, if_neg h9]
  have I5 : ∀ f, cI σ8 5 0 f = if f = 4 then g.p.co - c else cI σ 5 0 f := fun f => by
    have h5 : 0 < cn σ7 5 := by rw [m7, m6, if_neg (by decide)]; exact Nat.lt_of_lt_of_le (by decide) (hL 5 (by decide))
    rw [((FL.2 5 0 h5).2.2 (by simp)).1, h7, uI_ne _ _ _ (fun z => absurd z.1 (by decide))]
    show cI (uI σ6 9 g.p.S 0 (nI h)) 5 0 f = _
    rw [uI_ne _ _ _ (fun z => absurd z.1 (by decide)), h6, zI_uN, if_neg (fun z => absurd z.1 (by decide)), uI_at]
  have hat : ∀ s, s < g.p.S + 1 → cI σ8 9 s 0 = cI σ7 9 s 0 ∧ cR σ8 9 s 1 = cR σ7 9 s 1 ∧ cI σ8 9 s 2 = cI σ7 9 s 2 := fun s hs => by
    obtain ⟨z1, z2, z3⟩ := (FL.2 9 s (by rw [m7, m6, if_pos rfl]; exact hs)).2.2 (by simp)
    exact ⟨congrFun z1 0, congrFun z3 1, congrFun z1 2⟩
  refine ⟨σ7, σ8, by rw [← h6]; exact e7, k1, r1.fr hL FF (fun q hq => ?_), r2.fr hL FF (by simp) (by simp), r3.fb FF hL ne cnt, ⟨⟨?_, ?_, ?_, k2, ?_⟩, ?_, ?_, fun s hs => ?_⟩, ⟨⟨?_, fun x hx hx1 => ?_, fun x hx => ?_⟩, hsb.fr hL FF (fun q hq => by simp at hq; rcases hq with rfl | rfl | rfl | rfl <;> simp)⟩, hL.fr FF, by rw [cnt 18 (by decide) (by decide)]; exact r7, s0, r8.fr FF (fun q hq => ?_)⟩
  · unfold cWk
    simp at hq
    rcases hq with rfl | rfl | rfl | rfl <;> simp
  · rw [I5]; exact a1
  · rw [I5]; rfl
  · rw [I5]; exact a3
  · show cn σ8 9 = g.p.S + 1
    rw [k4 9 (by decide), m7, m6, if_pos rfl]
  · rw [((FF.2 12 12 (Nat.lt_of_lt_of_le (by decide) (hL 12 (by decide)))).2.2 (by simp)).1]
    exact b
  · rw [((FF.2 15 3 (Nat.lt_of_lt_of_le (by decide) (hL 15 (by decide)))).2.2 (by simp)).2.1]
    exact cc
  · have hs : s < g.p.S + 1 := hs
    obtain ⟨z1, z2, z3⟩ := hat s hs
    obtain ⟨e1, e2, e3⟩ := pBuy_e (p := g.p) (h := h) (n := n) (c := c) s
    show cI σ8 9 s 0 = nI ((pBuy g.p h n c).sh s) ∧ cR σ8 9 s 1 = some ((pBuy g.p h n c).sn s) ∧ cI σ8 9 s 2 = (pBuy g.p h n c).sc s
    rw [z1, z2, z3, e1, e2, e3]
    by_cases z : s = g.p.S
    · rw [if_pos z, if_pos z, if_pos z, z, h7]
      refine ⟨?_, ?_, ?_⟩
      · rw [uI_at, if_neg (by decide)]
        show cI (uI σ6 9 g.p.S 0 (nI h)) 9 g.p.S 0 = _
        rw [uI_at, if_pos rfl]
      · show cR (uR (uI σ6 9 g.p.S 0 (nI h)) 9 g.p.S 1 (some n)) 9 g.p.S 1 = _
        rw [uR_at, if_pos rfl]
      · rw [uI_at, if_pos rfl]
    · rw [if_neg z, if_neg z, if_neg z]
      obtain ⟨q1, -, q3⟩ := (F.2 9 s (by rw [a5]; omega)).2.2 (by simp; exact z)
      rw [q1, q3]
      exact d s (by omega)
  · rw [(FF.2 17 0 h17).1]; exact E1
  · have h0 : cR σ8 10 0 1 = cR σ 10 0 1 := congrFun ((FF.2 10 0 (Nat.lt_of_lt_of_le (by decide) (hL 10 (by decide)))).2.2 (by simp)).2.2 1
    rw [h0] at hx
    exact nx x hx hx1
  · obtain ⟨-, -, e', q1, q2, -⟩ := k2
    rw [hx] at q1
    rw [Option.some.inj q1]
    exact q2
  · simp at hq
    unfold cSc
    rcases hq with rfl | rfl | rfl | rfl <;> simp
end P20
