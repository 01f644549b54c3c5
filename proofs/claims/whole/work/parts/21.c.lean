/-! The line of play, whole, on the reference's side. -/
section C21
variable {g : Gm} {τ τ1 : mS} {w : Wd} {t : Tr} {l m : List Nat} {s : St}
/-- two digits at most are asked for -/
def qSm (q : Cm) : Prop := 12 ≤ q.1 → q.2.1.getD 0 < 100
theorem sSay_len {q : Cm} (hq : (q.1 = 0 ∧ True) ∨ (q.1 < 12 ∧ (sText w q).length ≤ 30) ∨ (12 ≤ q.1 ∧ q.1 ≤ 14)) : (sSay w q).length ≤ 30 := by
  have h5 : ∀ i, i < 17 → (tN i).length ≤ 6 := fun i hi => (tN_len i hi).2.2.1
  unfold sSay
  rcases hq with ⟨h, -⟩ | ⟨h1, h2⟩ | ⟨h1, h2⟩
  · rw [if_pos h]
    have := h5 0 (by omega)
    omega
  · by_cases z : q.1 = 0
    · rw [if_pos z]
      have := h5 0 (by omega)
      omega
    · rw [if_neg z, if_pos h1]
      exact h2
  · rw [if_neg (by omega), if_neg (by omega), List.length_append]
    have h6 : (tN (vT.getD q.1 0)).length ≤ 6 := h5 _ (by
      rcases (show q.1 = 12 ∨ q.1 = 13 ∨ q.1 = 14 by omega) with z | z | z <;> rw [z] <;> decide)
    have h7 := sDg_len (q.2.1.getD 0)
    show _ + ((sDg (q.2.1.getD 0)).length + 1) ≤ 30
    split at h7 <;> omega
theorem fm_lines_197_s (hw : Wd.ok w) (ht : Tr.ok w t) (h0 : 0 < t.N) (hM : MWd τ w) (hT : MTr τ w t) (hL : MLn τ l) (hl : l.length ≤ 30) : ∃ τ', fm_lines_197 τ = some τ' ∧ MLn τ' (l ++ 58 :: sCar w (t.st t.now) w.T 0) ∧ mFr [51, 52] τ τ' := by
  have hn := ht.1.2.1 h0
  have h80 := ht.1.1
  have h12 := hw.1.2.2.1
  obtain ⟨τ1, a1, a2, a3⟩ := fm_adds_s (c := 58) hL (by omega)
  have hnd := (hT.2 _ hn).2.2
  obtain ⟨τ2, b1, b2, b3⟩ := fm_car_l hw (m := t.now) (by omega) (ht.2.2.1 _ hn).1 w.T 0 3000 τ1 (l ++ [58]) (by omega) (by omega) (hM.ln a3) (by rw [(a3 34 (by decide)).1]; exact hT.1.2.1) (fun x hx => by rw [(a3 22 (by decide)).2.2.1]; exact (hnd.2 x hx).1) a2 (by rw [List.length_append]; show _ + 1 + _ < 199; omega)
  refine ⟨τ2, ?_, ?_, a3.tr b3⟩
  · unfold fm_lines_197
    rw [show (58 : Int32) = nI 58 from rfl, a1, Option.bind_some]
    exact b1
  · rw [app1]
    exact b2
theorem fm_lines_s (hw : Wd.ok w) (ht : Tr.ok w t) (h0 : 0 < t.N) (hM : MWd τ w) (hT : MTr τ w t) (hC : MCs τ w t) (h00 : (t.cm 0).1 = 0) (hs : ∀ n, 0 < n → n < t.N → qSm (t.cm n)) : ∃ τ', fm_lines τ = some τ' ∧ MLn τ' (sLn w t t.now) ∧ mFr [51, 52] τ τ' := by
  have hn := ht.1.2.1 h0
  have h80 := ht.1.1
  obtain ⟨τ0, hτ0⟩ : ∃ τ0, τ0 = mI τ 52 0 := ⟨_, rfl⟩
  have f0 : mFr [51, 52] τ τ0 := by rw [hτ0]; exact mFr.I (List.mem_cons_of_mem _ List.mem_cons_self)
  have L0 : MLn τ0 [] := ⟨by rw [hτ0, mI_at]; rfl, fun k hk => absurd hk (Nat.not_lt_zero k)⟩
  have M0 : MWd τ0 w := hM.ln f0
  have e34 : τ0.1 34 = nI t.now := by rw [(f0 34 (by decide)).1]; exact hT.1.2.1
  have fin : ∀ τ1 l, mFr [51, 52] τ τ1 → MLn τ1 l → l = sSay w (t.cm t.now) → l.length ≤ 30 → ∃ τ', fm_lines_197 τ1 = some τ' ∧ MLn τ' (sLn w t t.now) ∧ mFr [51, 52] τ τ' := by
    intro τ1 l hf hL he hl
    obtain ⟨τ2, a1, a2, a3⟩ := fm_lines_197_s hw ht h0 (hM.ln hf) (hT.fr hf (by decide)) hL hl
    rw [he] at a2
    exact ⟨τ2, a1, a2, hf.tr a3⟩
  unfold fm_lines
  rw [← hτ0, e34, if_neg (iN0 (show t.now < 80 by omega) (by omega)), jCl (by omega)]
  by_cases z : t.now = 0
  · have hq : sSay w (t.cm t.now) = tN 0 := by unfold sSay; rw [z]; exact if_pos h00
    obtain ⟨τ1, a1, a2, a3⟩ := fm_addsAll_s (a := 115) (b := 116) (c := 97) (d := 114) (e := 116) (m := tN 0) L0 (Nat.zero_lt_succ _) (by decide) (by omega) (by omega)
    obtain ⟨τ2, b1, b2, b3⟩ := fin τ1 _ (f0.tr a3) a2 hq.symm (by show (tN 0).length ≤ 30; decide)
    refine ⟨τ2, ?_, b2, b3⟩
    rw [if_pos (show nI t.now = 0 by rw [z]; rfl)]
    show (fm_addsAll τ0 (nI 115) (nI 116) (nI 97) (nI 114) (nI 116)).bind _ = _
    rw [a1, Option.bind_some, b1]
  · obtain ⟨hq, m1, m2, m3⟩ := hC t.now (by omega) hn
    have e28 : τ0.2.2.1 28 t.now = nI (kdQ (t.cm t.now).1) := by rw [(f0 28 (by decide)).2.2.1]; exact m1
    rw [if_neg (show ¬ nI t.now = 0 from fun y => z ((jEq (b := 0) (by omega) (by omega)).mp y)), e28]
    by_cases q : (t.cm t.now).1 < 12
    · obtain ⟨c1, c2, c3, c4⟩ := m3 q
      have v0 : (t.cm t.now).1 ≠ 0 := by
        rcases hq with y | ⟨v, h, y1, y2, y3, y4⟩
        · rcases y with ⟨d, y1, y2⟩ | y | y | ⟨v, k, y1, y2, y3, y4⟩ | ⟨a, b, y1, y2, y3⟩
          · rw [y2]; show (1 : Nat) ≠ 0; decide
          · rw [y]; decide
          · rw [y]; decide
          · rw [y4]; show v ≠ 0; omega
          · rw [y3]; show (9 : Nat) ≠ 0; decide
        · rw [y4] at q
          have : v < 12 := q
          omega
      have eq : sSay w (t.cm t.now) = sText w (t.cm t.now) := by unfold sSay; rw [if_neg v0, if_pos q]
      obtain ⟨τ1, a1, a2, a3⟩ := fm_came_l (K := fm_lines_197) (r := sText w (t.cm t.now)) rfl (show t.now < 80 by omega) c2 (sText w (t.cm t.now)).length 0 3000 τ0 [] (by omega) (by omega) e34 (by rw [(f0 27 (by decide)).2.2.1]; exact c1) (fun k hk => by rw [(f0 26 (by decide)).2.2.1]; exact c4 k hk) L0 (by show 0 + _ < 200; omega)
      obtain ⟨τ2, b1, b2, b3⟩ := fin τ1 _ (f0.tr a3) a2 (by rw [eq]; rfl) (by show ((sText w (t.cm t.now)).drop 0).length ≤ 30; rw [List.drop_zero]; exact c2)
      refine ⟨τ2, ?_, b2, b3⟩
      rw [if_pos (show nI (kdQ (t.cm t.now).1) = 0 by unfold kdQ; rw [if_pos q]; rfl)]
      show fm_lines_45 3000 τ0 (nI 0) = _
      rw [a1, b1]
    · have hv : 12 ≤ (t.cm t.now).1 ∧ (t.cm t.now).1 ≤ 14 ∧ ∃ h, (t.cm t.now).2.1 = some h := by
        rcases hq with y | ⟨v, h, y1, y2, y3, y4⟩
        · exfalso
          rcases y with ⟨d, y1, y2⟩ | y | y | ⟨v, k, y1, y2, y3, y4⟩ | ⟨a, b, y1, y2, y3⟩
          · rw [y2] at q; exact q (show (1 : Nat) < 12 by decide)
          · rw [y] at q; exact q (by decide)
          · rw [y] at q; exact q (by decide)
          · rw [y4] at q; exact q (show v < 12 by omega)
          · rw [y3] at q; exact q (show (9 : Nat) < 12 by decide)
        · rw [y4]; exact ⟨y1, y2, h, rfl⟩
      obtain ⟨v1, v2, h, hh⟩ := hv
      have hs' : h < 100 := by
        have := hs t.now (by omega) hn v1
        rw [hh] at this
        exact this
      obtain ⟨v, hv⟩ : ∃ v, v = (t.cm t.now).1 := ⟨_, rfl⟩
      rw [← hv] at v1 v2 q ⊢
      have eq : sSay w (t.cm t.now) = tN (vT.getD v 0) ++ 32 :: sDg h := by unfold sSay; rw [← hv, hh, if_neg (by omega), if_neg (by omega)]; rfl
      have hlen : (tN (vT.getD v 0) ++ 32 :: sDg h).length ≤ 30 := by rw [← eq]; exact sSay_len (Or.inr (Or.inr ⟨by omega, by omega⟩))
      have e29 : τ0.2.2.1 29 t.now = nI h := by
        rw [(f0 29 (by decide)).2.2.1, m2, ← hv, if_neg (by omega), hh]
        rfl
      have kd : kdQ v = v - 11 := by unfold kdQ; rw [if_neg q]
      have dig : ∀ τ1 l, mFr [51, 52] τ0 τ1 → MLn τ1 l → l = tN (vT.getD v 0) → ∃ τ', fm_lines_139 τ1 = some τ' ∧ MLn τ' (sLn w t t.now) ∧ mFr [51, 52] τ τ' := by
        intro τ1 l hf hL he
        have hl30 : l.length ≤ 30 := by
          rw [List.length_append, ← he] at hlen
          omega
        obtain ⟨τ2, a1, a2, a3⟩ := fm_digits (m := t.now) (k := h) (by omega) hs' hL (by omega) (by rw [(hf 34 (by decide)).1]; exact e34) (by rw [(hf 29 (by decide)).2.2.1]; exact e29)
        rw [he] at a2
        obtain ⟨τ3, b1, b2, b3⟩ := fin τ2 _ ((f0.tr hf).tr a3) a2 eq.symm hlen
        exact ⟨τ3, by rw [a1, b1], b2, b3⟩
      rw [kd, if_neg (show ¬ nI (v - 11) = 0 from fun y => by have := (jEq (b := 0) (by omega) (by omega)).mp y; omega)]
      rcases (show v = 12 ∨ v = 13 ∨ v = 14 by omega) with y | y | y
      · rw [y] at dig ⊢
        obtain ⟨τ1, a1, a2, a3⟩ := fm_addsAll_s (a := 98) (b := 117) (c := 121) (d := 0) (e := 0) (m := tN 11) L0 (Nat.zero_lt_succ _) (by decide) (by omega) (by omega)
        obtain ⟨τ2, b1, b2, b3⟩ := dig τ1 _ a3 a2 rfl
        refine ⟨τ2, ?_, b2, b3⟩
        rw [if_pos (show nI (12 - 11) = (1 : Int32) by decide)]
        show (fm_addsAll τ0 (nI 98) (nI 117) (nI 121) (nI 0) (nI 0)).bind _ = _
        rw [a1, Option.bind_some]
        unfold fm_lines_102 fm_lines_120
        rw [if_neg (show ¬ nI (12 - 11) = (2 : Int32) by decide), if_neg (show ¬ nI (12 - 11) = (3 : Int32) by decide), b1]
      · rw [y] at dig ⊢
        obtain ⟨τ1, a1, a2, a3⟩ := fm_addsAll_s (a := 114) (b := 101) (c := 97) (d := 100) (e := 0) (m := tN 12) L0 (Nat.zero_lt_succ _) (by decide) (by omega) (by omega)
        obtain ⟨τ2, b1, b2, b3⟩ := dig τ1 _ a3 a2 rfl
        refine ⟨τ2, ?_, b2, b3⟩
        rw [if_neg (show ¬ nI (13 - 11) = (1 : Int32) by decide)]
        unfold fm_lines_102 fm_lines_120
        rw [if_pos (show nI (13 - 11) = (2 : Int32) by decide)]
        show (fm_addsAll τ0 (nI 114) (nI 101) (nI 97) (nI 100) (nI 0)).bind _ = _
        rw [a1, Option.bind_some, if_neg (show ¬ nI (13 - 11) = (3 : Int32) by decide), b1]
      · rw [y] at dig ⊢
        obtain ⟨τ1, a1, a2, a3⟩ := fm_addsAll_s (a := 109) (b := 101) (c := 114) (d := 103) (e := 101) (m := tN 13) L0 (Nat.zero_lt_succ _) (by decide) (by omega) (by omega)
        obtain ⟨τ2, b1, b2, b3⟩ := dig τ1 _ a3 a2 rfl
        refine ⟨τ2, ?_, b2, b3⟩
        rw [if_neg (show ¬ nI (14 - 11) = (1 : Int32) by decide)]
        unfold fm_lines_102 fm_lines_120
        rw [if_neg (show ¬ nI (14 - 11) = (2 : Int32) by decide), if_pos (show nI (14 - 11) = (3 : Int32) by decide)]
        show (fm_addsAll τ0 (nI 109) (nI 101) (nI 114) (nI 103) (nI 101)).bind _ = _
        rw [a1, Option.bind_some, b1]
end C21
