/-! The coins: earn. -/
def pEarn (p : Sp) (x : Int32) : Sp := (p.1, (p.2.1.1 + x, p.2.1.2 + x), p.2.2)
theorem paid_earn (p : Sp) (x : Int32) : ∀ n, Sp.paid (pEarn p x) n = Sp.paid p n := by
  intro n
  induction n with
  | zero => rfl
  | succ n ih =>
    show Sp.paid (pEarn p x) n + p.sc n = Sp.paid p n + p.sc n
    rw [ih]
section J19
variable {g : Gm} {σ : cS} {τ : mS}
theorem meth_earn (hR : Rel g σ τ) (x : Int32) : Alk [1] g (fc_X11_earn σ x) (fm_earn τ x) := by
  have bad : fm_earn_16 τ x 1 = some (0, mI τ 0 (nI 1)) := by
    unfold fm_earn_16
    rw [show (1 : Int32) = nI 1 from rfl, wrong_s τ (by omega) (by omega)]
    exact if_neg nz1
  have c1 : (1 : Int32).toInt = 1 := rfl
  have c99 : (99 : Int32).toInt = 99 := rfl
  unfold fc_X11_earn fc_X11_earn_11 fm_earn fm_isBetween fm_isBetween_14 fm_isBetween_15
  by_cases q : x < 1
  · rw [if_pos q, if_pos q, if_pos (show (0 : Int32) &&& 1 = 0 by decide), Option.bind_some, if_pos rfl]
    exact Alk.x (c := 1) (j := 0) (v := 0) hR rfl bad rfl
  · rw [if_neg q, if_neg q]
    by_cases q2 : (99 : Int32) < x
    · rw [if_neg (show ¬ x ≤ 99 from fun h => by
        rw [Int32.le_iff_toInt_le] at h
        rw [Int32.lt_iff_toInt_lt] at q2
        omega), if_pos q2, if_pos (show (0 : Int32) &&& 1 = 0 by decide), Option.bind_some, if_pos rfl]
      exact Alk.x (c := 1) (j := 0) (v := 0) hR rfl bad rfl
    · have e : fm_earn_16 τ x 0 = some (g.p.co + x, mI (mI τ 0 (nI 0)) 46 (g.p.co + x)) := by
        unfold fm_earn_16
        rw [show (0 : Int32) = nI 0 from rfl, right_s]
        have e46 : (mI τ 0 (nI 0)).1 46 = g.p.co := by rw [mI_ne _ _ (by decide)]; exact hR.2.2.2.2.2.2.2.1.2.1
        show (if nI 0 = nI 0 then some ((mI (mI τ 0 (nI 0)) 46 ((mI τ 0 (nI 0)).1 46 + x)).1 46, mI (mI τ 0 (nI 0)) 46 ((mI τ 0 (nI 0)).1 46 + x)) else _) = _
        rw [if_pos rfl, e46, mI_at]
      rw [if_pos (show x ≤ 99 by
        rw [Int32.le_iff_toInt_le]
        rw [Int32.lt_iff_toInt_lt] at q2
        omega), if_neg q2, if_pos (show (1 : Int32) &&& 1 = 1 by decide), Option.bind_some, if_neg (show ¬ (1 : Int32) = 0 by decide), e]
      obtain ⟨⟨k1, k2, k3, ⟨s1, s2, s3, s4, s5, s6, s7⟩, k5⟩, ⟨r1, r2, r3, ⟨⟨a1, a2, a3, a4, a5⟩, b, c, d⟩, r5, r6, r7, s0, r8⟩, ⟨m1, m2, m3, m4, m5, ⟨⟨u1, u2, u3⟩, u4⟩⟩⟩ := hR
      obtain ⟨σ1, hσ⟩ : ∃ σ1, σ1 = uI (uI σ 5 0 4 (g.p.co + x)) 5 0 5 (g.p.ea + x) := ⟨_, rfl⟩
      have I5 : ∀ f, cI σ1 5 0 f = if f = 5 then g.p.ea + x else if f = 4 then g.p.co + x else cI σ 5 0 f := fun f => by rw [hσ, uI_at, uI_at]
      have hf : cFr [(5, 0)] σ σ1 := by rw [hσ]; exact (cFr.I (List.mem_singleton.mpr rfl)).tr (cFr.I (List.mem_singleton.mpr rfl))
      have hc : cn σ1 = cn σ := by rw [hσ]; rfl
      have e5 : cI (uI σ 5 0 4 (cI σ 5 0 4 + x)) 5 0 5 = g.p.ea := by rw [uI_at, if_neg (by decide)]; exact a3
      refine ⟨(g.w, g.l, g.t, pEarn g.p x), .inr (g.p.co + x), σ1, g.p.co + x, _, ?_, rfl, by rw [mI_ne _ _ (by decide), mI_at]; exact Agr.v, ?_, ?_, ?_⟩
      · rw [e5, a2, ← hσ, I5, if_neg (by decide), if_pos rfl]
      · refine ⟨k1, k2, k3, ⟨s1, s2, s3, s4, s5, s6, ?_⟩, k5⟩
        show Sp.paid (pEarn g.p x) g.p.S + (g.p.co + x) = 100 + (g.p.ea + x)
        rw [paid_earn, ← Int32.add_assoc, s7, Int32.add_assoc]
      · have L := fun k i (hi : i < cLb.getD k 0) (hk : k < 18) => hf.2 k i (Nat.lt_of_lt_of_le hi (r6 k hk))
        have e12 := ((L 12 12 (by decide) (by decide)).2.2 (by simp)).1
        have e15 := ((L 15 3 (by decide) (by decide)).2.2 (by simp)).2.1
        refine ⟨r1.fr r6 hf (by decide), r2.fr r6 hf (by simp) (by simp), r3.fr hf r6 (fun q hq => by rw [List.mem_singleton] at hq; rw [hq]; simp) (by rw [hc]) (by rw [hc]) (by rw [hc]) (by rw [hc]), ⟨⟨?_, ?_, ?_, (a4.fr hf (by simp) (fun e _ => by simp)).1, by rw [hc]; exact a5⟩, by rw [e12]; exact b, by rw [e15]; exact c, fun s hs => ?_⟩, ⟨r5.1.fr hf r6 (by simp) (by simp), r5.2.fr r6 hf (by decide)⟩, r6.fr hf, by rw [hc]; exact r7, s0, r8.fr hf (fun q hq => by rw [List.mem_singleton] at hq; rw [hq]; unfold cSc; simp)⟩
        · rw [I5, if_neg (by decide), if_neg (by decide)]; exact a1
        · rw [I5, if_neg (by decide), if_pos rfl]; rfl
        · rw [I5, if_pos rfl]; rfl
        · obtain ⟨q1, -, q3⟩ := (hf.2 9 s (by rw [a5]; exact hs)).2.2 (by simp)
          rw [q1, q3]
          exact d s hs
      · have hr : mFr [0, 46] τ (mI (mI τ 0 (nI 0)) 46 (g.p.co + x)) := (mFr.I (by decide)).tr (mFr.I (by decide))
        refine ⟨m1.fr hr (by decide), m2.fr hr (by decide) (by decide), m3.fr hr (by decide), m4.fr hr (by decide), m5.fr hr (by decide), ⟨⟨?_, mI_at _ _ _, ?_⟩, ?_⟩⟩
        · rw [(hr 45 (by decide)).1]; exact u1
        · rw [(hr 49 (by decide)).1]; exact u3
        · rw [(hr 43 (by decide)).2.2.1, (hr 44 (by decide)).2.2.2, (hr 47 (by decide)).2.2.1, (hr 48 (by decide)).2.2.1, (hr 32 (by decide)).2.2.1]
          exact u4
end J19
