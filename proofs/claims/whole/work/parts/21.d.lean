/-! The line of play: the class's words. -/
theorem low31 (r : Int64) (h : sNat r % 32 < 100) : (r.toInt32 &&& 31) = nI (sNat r % 32) := by
  refine Int32.toBitVec_inj.mp (BitVec.eq_of_toNat_eq ?_)
  rw [Int32.toBitVec_and, BitVec.toNat_and]
  have e1 : r.toInt32.toBitVec.toNat = sNat r % 2 ^ 32 := by
    show (r.toBitVec.signExtend 32).toNat = _
    rw [BitVec.signExtend_eq_setWidth_of_le _ (by decide), BitVec.toNat_setWidth]
    rfl
  rw [e1, show ((31 : Int32).toBitVec.toNat) = 2 ^ 5 - 1 from rfl, Nat.and_two_pow_sub_one_eq_mod]
  show _ = (sNat r % 32) % 2 ^ 32
  omega
theorem sh_pos {s : Int64} {k : Nat} (hk : k < 64) (hs : sNat s < 2 ^ 40) : sNat (s >>> ((nI k).toInt64 &&& 63)) = sNat s / 2 ^ k := by
  have e1 : (s >>> ((nI k).toInt64 &&& 63)).toBitVec = s.toBitVec.sshiftRight k := by
    rw [Int64.toBitVec_shiftRight]
    show s.toBitVec.sshiftRight _ = _
    congr 1
    exact shk k hk
  have hm : s.toBitVec.msb = false := by
    rw [BitVec.msb_eq_decide]
    refine decide_eq_false ?_
    have : s.toBitVec.toNat < 2 ^ 40 := hs
    omega
  rw [sNat_bv, e1, BitVec.sshiftRight_eq_of_msb_false hm, BitVec.toNat_ushiftRight, Nat.shiftRight_eq_div_pow]
  rfl
/-- a letter out of a packed word -/
theorem packN_at : ∀ (n : Nat) (l : List Nat), l.length = n → (∀ c ∈ l, 97 ≤ c ∧ c ≤ 122) → ∀ j, packN l / 2 ^ (5 * j) % 32 = if j < n then l.getD (n - 1 - j) 0 - 96 else 0 := by
  intro n
  induction n with
  | zero =>
    intro l hl _ j
    rw [List.eq_nil_of_length_eq_zero hl, if_neg (Nat.not_lt_zero j)]
    show 0 / _ % 32 = 0
    rw [Nat.zero_div]
  | succ n ih =>
    intro l hl hc j
    rcases nilc l with h | ⟨m, c, h⟩
    · rw [h] at hl
      cases hl
    · rw [h] at hl hc
      have hm : m.length = n := by
        rw [List.length_append] at hl
        have hl : m.length + 1 = n + 1 := hl
        omega
      have hc1 := hc c (List.mem_append_right _ (List.mem_singleton.mpr rfl))
      have hcm : ∀ x ∈ m, 97 ≤ x ∧ x ≤ 122 := fun x hx => hc x (List.mem_append_left _ hx)
      rw [h, packN_c]
      cases j with
      | zero =>
        rw [if_pos (Nat.zero_lt_succ _), getD_app2, if_neg (by omega), show n + 1 - 1 - 0 - m.length = 0 by omega]
        show (packN m * 32 + (c - 96)) / 2 ^ 0 % 32 = c - 96
        rw [Nat.pow_zero, Nat.div_one]
        omega
      | succ j =>
        have e : (packN m * 32 + (c - 96)) / 2 ^ (5 * (j + 1)) = packN m / 2 ^ (5 * j) := by
          rw [show 5 * (j + 1) = 5 + 5 * j by omega, Nat.pow_add, ← Nat.div_div_eq_div_mul]
          congr 1
          show (packN m * 32 + (c - 96)) / 32 = _
          omega
        rw [e, ih m hm hcm j]
        by_cases q : j < n
        · rw [if_pos q, if_pos (by omega), getD_app2, if_pos (by omega)]
          congr 2
          omega
        · rw [if_neg q, if_neg (by omega)]
theorem ch_l : ∀ c, c < 27 → 0 < c → (((((97 : Int32) + nI c) - (1 : Int32)).toUInt32 % 65536).toInt32) = nI (c + 96) := by decide +kernel
section D21
variable {g : Gm} {σ σ1 : cS} {w : Wd} {t : Tr} {l m : List Nat} {s : St}
theorem KB.J {k i : Nat} (h : KB σ σ1) (hi : i < cn σ k) (h11 : k ≠ 11) (h16 : k ≠ 16) : cI σ1 k i = cI σ k i ∧ cJ σ1 k i = cJ σ k i ∧ cR σ1 k i = cR σ k i := (h.2.2 k i hi).2.2 h11 h16
theorem fc_word_l (hw : Wd.ok w) {x : Nat} (hx : x < w.W) : ∀ (d n : Nat) (σ : cS) (l : List Nat), d ≤ 8 → d < n → 1 ≤ cn σ 15 → cJ σ 15 0 x = pack (w.word x) → SBd σ l → l.length + d ≤ 142 → ∃ σ', fc_X11_writeWord_13 n σ (nI x) (nI d + (-1 : Int32)) = some σ' ∧ SBd σ' (l ++ (w.word x).drop ((w.word x).length - d)) ∧ KB σ σ' := by
  obtain ⟨l1, l2, l3⟩ := hw.2.1 x hx
  have hW := hw.1.1
  obtain ⟨L, hL⟩ : ∃ L, L = w.word x := ⟨_, rfl⟩
  rw [← hL] at l1 l2 l3 ⊢
  obtain ⟨p1, p2⟩ := pack_n L.length L rfl l2 l3
  have p3 : sNat (pack L) < 2 ^ 40 := by
    rw [p1]
    refine Nat.lt_of_lt_of_le p2 ?_
    exact Nat.le_trans (Nat.pow_le_pow_right (by decide) l2) (by decide)
  intro d
  induction d with
  | zero =>
    intro n σ l _ hn _ _ hS _
    obtain ⟨n, rfl⟩ : ∃ j, n = j + 1 := ⟨n - 1, by omega⟩
    refine ⟨σ, ?_, by rw [Nat.sub_zero, List.drop_of_length_le (Nat.le_refl _), List.append_nil]; exact hS, KB.rf σ⟩
    rw [show fc_X11_writeWord_13 (n + 1) σ (nI x) (nI 0 + (-1 : Int32)) = if nI 0 + (-1 : Int32) < 0 then some σ else _ from rfl]
    exact if_pos (by decide)
  | succ d ih =>
    intro n σ l h8 hn h15 hJ hS hl
    obtain ⟨n, rfl⟩ : ∃ j, n = j + 1 := ⟨n - 1, by omega⟩
    rw [show nI (d + 1) + (-1 : Int32) = nI d from jDec (a := d + 1) (Nat.succ_ne_zero _)]
    obtain ⟨v, hv⟩ : ∃ v, v = packN L / 2 ^ (5 * d) % 32 := ⟨_, rfl⟩
    have hval : (((pack L) >>> ((nI d * (5 : Int32)).toInt64 &&& 63)).toInt32) &&& (31 : Int32) = nI v := by
      rw [show (5 : Int32) = nI 5 from rfl, jMul]
      have e := sh_pos (s := pack L) (k := d * 5) (by omega) p3
      have e2 : sNat (pack L >>> ((nI (d * 5)).toInt64 &&& 63)) % 32 = v := by rw [e, p1, hv, Nat.mul_comm d 5]
      rw [low31 _ (by omega), e2]
    have step : fc_X11_writeWord_13 (n + 1) σ (nI x) (nI d) = if nI v = 0 then fc_X11_writeWord_13 n σ (nI x) (nI d + (-1 : Int32)) else (fc_A_appc σ (((((97 : Int32) + nI v) - (1 : Int32)).toUInt32 % 65536).toInt32)).bind fun r_1 => fc_X11_writeWord_13 n r_1 (nI x) (nI d + (-1 : Int32)) := by
      rw [show fc_X11_writeWord_13 (n + 1) σ (nI x) (nI d) = if nI d < 0 then some σ else if nI x < 0 ∨ 40 ≤ (nI x).toNatClampNeg then none else if ((((cJ σ 15 0 (nI x).toNatClampNeg) >>> ((nI d * (5 : Int32)).toInt64 &&& 63)).toInt32) &&& (31 : Int32)) = 0 then fc_X11_writeWord_13 n σ (nI x) (nI d + (-1 : Int32)) else (fc_A_appc σ (((((97 : Int32) + ((((cJ σ 15 0 (nI x).toNatClampNeg) >>> ((nI d * (5 : Int32)).toInt64 &&& 63)).toInt32) &&& (31 : Int32))) - (1 : Int32)).toUInt32 % 65536).toInt32)).bind fun r_1 => fc_X11_writeWord_13 n r_1 (nI x) (nI d + (-1 : Int32)) from rfl]
      rw [if_neg (show ¬ nI d < 0 from fun z => by rw [n0, jLt (by omega) (by omega)] at z; omega), if_neg (iN0 (show x < 40 by omega) (by omega)), jCl (show x < 100000 by omega), hJ, hval]
    have hat := packN_at L.length L rfl l3 d
    rw [← hv] at hat
    rw [step]
    by_cases q : d < L.length
    · rw [if_pos q] at hat
      have hlt : L.length - 1 - d < L.length := by omega
      have hc : 97 ≤ L.getD (L.length - 1 - d) 0 ∧ L.getD (L.length - 1 - d) 0 ≤ 122 := by
        rw [gD hlt]
        exact l3 _ (List.getElem_mem _)
      obtain ⟨c, hcc⟩ : ∃ c, c = L.getD (L.length - 1 - d) 0 := ⟨_, rfl⟩
      rw [← hcc] at hat hc
      rw [if_neg (show ¬ nI v = 0 from fun z => by have := (jEq (b := 0) (by omega) (by omega)).mp z; omega), ch_l v (by omega) (by omega), show v + 96 = c by omega]
      obtain ⟨σ1, a1, a2, a3⟩ := sb_appc hS (c := c) (by omega) (by omega)
      obtain ⟨b1, b2, b3⟩ := a3.J (k := 15) (i := 0) (by omega) (by decide) (by decide)
      obtain ⟨σ2, c1, c2, c3⟩ := ih n σ1 (l ++ [c]) (by omega) (by omega) (Nat.le_trans h15 (a3.1 15)) (by rw [b2]; exact hJ) a2 (by rw [List.length_append]; show _ + 1 + d ≤ 142; omega)
      refine ⟨σ2, by rw [a1, Option.bind_some, c1], ?_, a3.tr c3⟩
      have e : L.drop (L.length - (d + 1)) = c :: L.drop (L.length - d) := by
        rw [hcc, show L.length - (d + 1) = L.length - 1 - d by omega, gD hlt, List.drop_eq_getElem_cons hlt]
        congr 2
        omega
      rw [e, app1]
      exact c2
    · rw [if_neg q] at hat
      rw [if_pos (show nI v = 0 by rw [hat]; rfl)]
      obtain ⟨σ2, c1, c2, c3⟩ := ih n σ l (by omega) (by omega) h15 hJ hS (by omega)
      refine ⟨σ2, c1, ?_, c3⟩
      rw [show L.length - (d + 1) = L.length - d by omega]
      exact c2
theorem fc_word_s (hw : Wd.ok w) (hW : CWd σ w) (hLb : cLbs σ) {x : Nat} (hx : x < w.W) (hS : SBd σ l) (hl : l.length + 9 ≤ 142) : ∃ σ', fc_X11_writeWord σ (nI x) = some σ' ∧ SBd σ' (l ++ 32 :: w.word x) ∧ KB σ σ' := by
  obtain ⟨σ1, a1, a2, a3⟩ := sb_appc hS (c := 32) (by omega) (by omega)
  have h15 : 1 ≤ cn σ 15 := Nat.le_trans (by decide) (hLb 15 (by decide))
  obtain ⟨b1, b2, b3⟩ := a3.J (k := 15) (i := 0) (by omega) (by decide) (by decide)
  have l2 := (hw.2.1 x hx).2.1
  obtain ⟨σ2, c1, c2, c3⟩ := fc_word_l hw hx 8 3000 σ1 (l ++ [32]) (by omega) (by omega) (Nat.le_trans h15 (a3.1 15)) (by rw [b2]; exact hW.2.1 x hx) a2 (by rw [List.length_append]; show _ + 1 + 8 ≤ 142; omega)
  refine ⟨σ2, ?_, ?_, a3.tr c3⟩
  · unfold fc_X11_writeWord fc_X11_writeWord_9
    rw [show (32 : Int32) = nI 32 from rfl, a1, Option.bind_some]
    exact c1
  · rw [app1]
    rw [show (w.word x).length - 8 = 0 by omega, List.drop_zero] at c2
    exact c2
theorem CWd.kb (h : CWd σ w) (hL : cLbs σ) (hk : KB σ σ1) : CWd σ1 w ∧ cLbs σ1 := by
  refine ⟨h.fr hL hk.cFr (fun q hq hw => ?_), hL.fr hk.cFr⟩
  have := kbP_1 q hq
  unfold cWk at hw
  simp at hw
  rcases hw with rfl | rfl | rfl | rfl | rfl | rfl | rfl | rfl | rfl | rfl | rfl | rfl | rfl | rfl <;> simp at this
theorem RSt.kb {i : Nat} (h : RSt σ i s) (hk : KB σ σ1) : RSt σ1 i s := by
  refine h.fr hk.cFr (fun q hq hq2 => ?_)
  have := kbP_1 q hq
  unfold cSc at hq2
  simp at hq2
  rcases hq2 with rfl | rfl | rfl | rfl <;> simp at this
theorem RCm.kb {c : Nat} {q : Cm} (h : RCm σ c q) (hk : KB σ σ1) : RCm σ1 c q := by
  obtain ⟨h1, h2, h3, h4⟩ := h
  obtain ⟨b1, b2, b3⟩ := hk.J (k := 8) (i := c) h1 (by decide) (by decide)
  exact ⟨Nat.lt_of_lt_of_le h1 (hk.1 8), by rw [b3]; exact h2, by rw [b1]; exact h3, by rw [b1]; exact h4⟩
end D21
