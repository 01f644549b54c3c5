/-! Whether a part is a text: both sides. -/
def tN (i : Nat) : List Nat := (tB.getD i []).map fun v => v.toNatClampNeg
theorem tN_len : ∀ i, i < 17 → nI (tL.getD i 0) >>> ((0 : Int32) &&& 31) = nI (tN i).length ∧ tL.getD i 0 = (tN i).length ∧ (tN i).length ≤ 6 ∧ ∀ c ∈ tN i, 32 ≤ c ∧ c ≤ 122 := by decide +kernel
theorem tN_at : ∀ i, i < 17 → ∀ k, k < (tN i).length → ((((((tB.getD i []).getD k 0) &&& (255 : Int32)).toUInt32 % 65536).toInt32)).toUInt32.toUInt16.toUInt32.toInt32 = (((((tB.getD i []).getD k 0) &&& (255 : Int32)).toUInt32 % 65536).toInt32) ∧ ((((tB.getD i []).getD k 0) &&& (255 : Int32)).toUInt32 % 65536).toInt32 = nI ((tN i).getD k 0) := by decide +kernel
theorem dt_mk {i : Nat} (h : i < 17) : dt (some i) = some i := if_pos h
theorem fc_tlen {σ : cS} {i : Nat} (hi : i < 17) : fc_J0_length_8abf5 σ (some i) = some (nI (tN i).length, σ) := by
  have l1 : fc_J0_coder_7d493 σ (some i) = some (0, σ) := by
    unfold fc_J0_coder_7d493
    rw [dt_mk hi]
    rfl
  unfold fc_J0_length_8abf5
  simp only [dt_mk hi, Option.bind_some, l1]
  rw [(tN_len i hi).1]
theorem fc_tat {σ : cS} {i k : Nat} (hi : i < 17) (hk : k < (tN i).length) : fc_J0_charAt_5068e σ (some i) (nI k) = some (nI ((tN i).getD k 0), σ) := by
  obtain ⟨-, a2, a3, a4⟩ := tN_len i hi
  obtain ⟨b1, b2⟩ := tN_at i hi k hk
  have l1 : fc_J0_isLatin1_aae02 σ (some i) = some (1, σ) := by
    unfold fc_J0_isLatin1_aae02
    rw [dt_mk hi]
    rfl
  have c1 : (nI k).toNatClampNeg = k := jCl (by omega)
  have x1 : ¬ (tN i).length ≤ k := by omega
  have x2 : nI 0 ≤ nI k ∧ nI k < nI (tN i).length := by
    rw [jLe (by omega) (by omega), jLt (by omega) (by omega)]; omega
  have g : (tN i).getD k 0 ≤ 122 := by
    rw [gD hk]
    exact (a4 _ (List.getElem_mem hk)).2
  have q : (nI ((tN i).getD k 0)).toUInt32.toUInt16.toUInt32.toInt32 = nI ((tN i).getD k 0) := by rw [← b2]; exact b1
  unfold fc_J0_charAt_5068e fc_J1_charAt_3b067 fc_S_ck
  simp (disch := omega) only [dt_mk hi, Option.bind_some, l1, show ((1 : Int32) = 0) = False from eq_false (by decide), if_false, a2, n0, x2, and_self, not_true_eq_false, c1, jLt, x1, Nat.not_lt_zero, false_or]
  simp only [← n0, b2, q, if_true, Option.bind_some]
  exact if_neg (by decide)
section U17
variable {l : List Nat}
theorem fc_isPart_l {σ : cS} (hl : isTx l) (hX : CTx σ l) {j a i : Nat} (hj : j < 4) (hi : i < 17) (hs : cI σ 12 0 j = nI a) (ha : a + (tN i).length ≤ l.length) : ∀ (d k f : Nat), k + d = (tN i).length → d < f → fc_X7_isPart_24 f σ (nI j) (some i) (nI k) = some (bI (eqF (fun k => l.getD (a + k) 0) (fun k => (tN i).getD k 0) k d), σ) := by
  have h30 := hl.1
  obtain ⟨-, a2, a3, a4⟩ := tN_len i hi
  intro d
  induction d with
  | zero =>
    intro k f hk hf
    obtain ⟨f, rfl⟩ : ∃ k, f = k + 1 := ⟨f - 1, by omega⟩
    rw [fc_X7_isPart_24, dt_mk hi, Option.bind_some, fc_tlen hi, Option.bind_some, if_pos (by rw [jLe (by omega) (by omega)]; omega)]
    rfl
  | succ d ih =>
    intro k f hk hf
    obtain ⟨f, rfl⟩ : ∃ k, f = k + 1 := ⟨f - 1, by omega⟩
    have x1 : ¬ (tN i).length ≤ k := by omega
    have x2 : ¬ 4 ≤ j := by omega
    have x3 : ¬ 30 ≤ a + k := by omega
    have c1 : (nI j).toNatClampNeg = j := jCl (by omega)
    have c2 : (nI (a + k)).toNatClampNeg = a + k := jCl (by omega)
    have e1 := hX.2 (a + k) (by omega)
    have g1 := getD_tx hl (show a + k < l.length by omega)
    have g2 : (tN i).getD k 0 ≤ 122 := by
      rw [gD (show k < (tN i).length by omega)]
      exact (a4 _ (List.getElem_mem _)).2
    rw [fc_X7_isPart_24, eqF_s]
    simp (disch := omega) only [dt_mk hi, fc_tlen hi, Option.bind_some, n0, n1, jLe, jLt, x1, x2, x3, c1, c2, hs, jAdd, Nat.not_lt_zero, false_or, if_false, fc_tat hi (show k < (tN i).length by omega), e1, jEq]
    rw [ih (k + 1) f (by omega) (by omega)]
    by_cases q : l.getD (a + k) 0 = (tN i).getD k 0
    · rw [if_pos q, decide_eq_true q, Bool.true_and]
    · rw [if_neg q, decide_eq_false q, Bool.false_and]
      rfl
theorem seg_eq {m : List Nat} {a d : Nat} (h : a + d ≤ l.length) (hd : d = m.length) : eqF (fun k => l.getD (a + k) 0) (fun k => m.getD k 0) 0 d = decide (sSeg l a d = m) := by
  rw [Bool.eq_iff_iff, decide_eq_true_iff, eqF_iff]
  constructor
  · intro g
    refine List.ext_getElem (by rw [sSeg_len h, hd]) fun k h1 h2 => ?_
    have := g k (Nat.zero_le _) (by omega)
    have e := sSeg_get (l := l) (i := a) (d := d) (k := k) h
    rw [if_pos (by omega)] at e
    rw [← gD h1, ← gD h2, e]
    exact this
  · intro g k _ hk
    have e := sSeg_get (l := l) (i := a) (d := d) (k := k) h
    rw [if_pos (by omega)] at e
    show l.getD (a + k) 0 = m.getD k 0
    rw [← e, g]
theorem fc_isPart_s {σ : cS} (hl : isTx l) (hX : CTx σ l) {j a b i : Nat} (hj : j < 4) (hi : i < 17) (hs : cI σ 12 0 j = nI a) (he : cI σ 12 1 j = nI b) (ha : a ≤ b) (hb : b ≤ l.length) : fc_X7_isPart σ (nI j) (some i) = some (bI (decide (sSeg l a (b - a) = tN i)), σ) := by
  have h30 := hl.1
  obtain ⟨-, a2, a3, a4⟩ := tN_len i hi
  have x2 : ¬ 4 ≤ j := by omega
  have c1 : (nI j).toNatClampNeg = j := jCl (by omega)
  unfold fc_X7_isPart
  simp (disch := omega) only [dt_mk hi, fc_tlen hi, Option.bind_some, n0, jLt, x2, c1, hs, he, Nat.not_lt_zero, false_or, if_false, jSub, jEq]
  by_cases q : b - a = (tN i).length
  · rw [if_pos q, fc_isPart_l hl hX hj hi hs (by omega) (tN i).length 0 3000 (by omega) (by omega), ← q, seg_eq (by omega) q]
  · rw [if_neg q, decide_eq_false (fun h => q (by rw [← h, sSeg_len (by omega)]))]
    rfl
/-- the reference's sum of a part -/
def stM (s : Int64) (c : Nat) : Int64 := if lg_cmp s (1125899906842624 : Int64) ≤ 0 then ((32 : Int64) * s + (nI c).toInt64) - (96 : Int64) else -1
theorem fm_isPart_l {τ : mS} (hl : isTx l) (hX : MTx τ l) {j b : Nat} (hj : j < 31) (hb : b ≤ l.length) (he : τ.2.2.1 41 j = nI b) (r : Int64) : ∀ (d k : Nat) (s : Int64) (f : Nat), k + d = b → d < f → (∀ c ∈ sSeg l k d, c ≠ 32) → fm_isPart_11 f τ (nI j) r s (nI k) = some (bI (decide ((sSeg l k d).foldl stM s = r)), τ) := by
  have h30 := hl.1
  have x2 : ¬ 31 ≤ j := by omega
  have c1 : (nI j).toNatClampNeg = j := jCl (by omega)
  intro d
  induction d with
  | zero =>
    intro k s f hk hf _
    obtain ⟨f, rfl⟩ : ∃ k, f = k + 1 := ⟨f - 1, by omega⟩
    have x1 : b ≤ k := by omega
    rw [fm_isPart_11]
    unfold fm_isPart_88
    simp (disch := omega) only [n0, jLe, jLt, x1, x2, c1, he, Nat.not_lt_zero, false_or, if_false, if_true]
    show (if lg_cmp s r = 0 then _ else _) = some (bI (decide (s = r)), τ)
    by_cases q : s = r
    · rw [if_pos (lg0.mpr q), decide_eq_true q]; rfl
    · rw [if_neg (fun h => q (lg0.mp h)), decide_eq_false q]; rfl
  | succ d ih =>
    intro k s f hk hf hn
    obtain ⟨f, rfl⟩ : ∃ k, f = k + 1 := ⟨f - 1, by omega⟩
    have x1 : ¬ b ≤ k := by omega
    have x3 : ¬ 30 ≤ k := by omega
    have c2 : (nI k).toNatClampNeg = k := jCl (by omega)
    have e1 := hX.2 k (by omega)
    have g := getD_tx hl (show k < l.length by omega)
    rw [sSeg_s (by omega)] at hn ⊢
    have g2 := hn _ List.mem_cons_self
    rw [fm_isPart_11, List.foldl_cons]
    unfold fm_isPart_43 fm_isPart_68
    simp (disch := omega) only [n0, n1, show ((32 : Int32) = nI 32) from rfl, jLe, jLt, jEq, x1, x2, x3, c1, c2, he, e1, Nat.not_lt_zero, false_or, if_false, g2, jAdd]
    rw [ih (k + 1) _ f (by omega) (by omega) (fun c hc => hn c (List.mem_cons_of_mem _ hc)), ih (k + 1) _ f (by omega) (by omega) (fun c hc => hn c (List.mem_cons_of_mem _ hc))]
    by_cases q : lg_cmp s (1125899906842624 : Int64) ≤ nI 0
    · rw [if_pos q, show stM s (l.getD k 0) = _ from if_pos q]
    · rw [if_neg q, show stM s (l.getD k 0) = _ from if_neg q]
def sumM (m : List Nat) : Int64 := m.foldl stM 0
theorem sumM_c (m : List Nat) (c : Nat) : sumM (m ++ [c]) = stM (sumM m) c := by
  unfold sumM
  rw [List.foldl_append]; rfl
theorem fm_isPart_s {τ : mS} (hl : isTx l) (hX : MTx τ l) {j a b : Nat} (hj : j < 31) (ha : a ≤ b) (hb : b ≤ l.length) (hs : τ.2.2.1 40 j = nI a) (he : τ.2.2.1 41 j = nI b) (hn : ∀ c ∈ sSeg l a (b - a), c ≠ 32) (r : Int64) : fm_isPart τ (nI j) r = some (bI (decide (sumM (sSeg l a (b - a)) = r)), τ) := by
  have x2 : ¬ 31 ≤ j := by omega
  have h30 := hl.1
  have c1 : (nI j).toNatClampNeg = j := jCl (by omega)
  unfold fm_isPart
  simp (disch := omega) only [n0, jLt, x2, c1, hs, Nat.not_lt_zero, false_or, if_false]
  exact fm_isPart_l hl hX hj hb he r (b - a) a 0 3000 (by omega) (by omega) hn
theorem d96 : ∀ c, c < 123 → 97 ≤ c → (nI c).toInt64 + -(96 : Int64) = Int64.ofNat (c - 96) := by decide +kernel
theorem stM_n {s : Int64} {c : Nat} (h1 : 97 ≤ c) (h2 : c ≤ 122) : sNat (stM s c) = (32 * sNat s + (c - 96)) % 2 ^ 64 ∨ sNat (stM s c) = 2 ^ 64 - 1 := by
  unfold stM
  by_cases q : lg_cmp s (1125899906842624 : Int64) ≤ 0
  · rw [if_pos q, Int64.sub_eq_add_neg, Int64.add_assoc, d96 c (by omega) h1]
    left
    rw [sNat_bv, Int64.toBitVec_add, Int64.toBitVec_mul, BitVec.toNat_add, BitVec.toNat_mul]
    show ((32 * sNat s) % 2 ^ 64 + sNat (Int64.ofNat (c - 96))) % 2 ^ 64 = _
    rw [ofNat_n (by omega)]
    omega
  · rw [if_neg q]
    right
    rfl
theorem packN_lt : ∀ (n : Nat) (m : List Nat), m.length = n → (∀ c ∈ m, 97 ≤ c ∧ c ≤ 122) → packN m < 32 ^ n := by
  intro n
  induction n with
  | zero =>
    intro m hn _
    obtain rfl : m = [] := List.eq_nil_of_length_eq_zero hn
    decide
  | succ n ih =>
    intro m hn hm
    rcases nilc m with rfl | ⟨m', b, rfl⟩
    · cases hn
    · have h1 := hm b (by simp)
      have h2 := ih m' (by simpa using hn) (fun c hc => hm c (by simp [hc]))
      rw [packN_c, Nat.pow_succ]
      omega
theorem sumM_l : ∀ (n j : Nat) (x m : List Nat), x.length = n → n + j ≤ 5 → (∀ c ∈ x, 97 ≤ c ∧ c ≤ 122) → (∀ c ∈ m, 97 ≤ c ∧ c ≤ 122) → ∀ M, M = 2 ^ (64 - 5 * j) → sNat (sumM m) % M = packN x → m = x := by
  have half : ∀ j, j ≤ 5 → 2 ^ (64 - 5 * j) = 32 * 2 ^ (59 - 5 * j) := by
    intro j hj
    rw [show 64 - 5 * j = 5 + (59 - 5 * j) by omega, Nat.pow_add]
  intro n
  induction n with
  | zero =>
    intro j x m hx hj _ hm M hM h
    obtain rfl : x = [] := List.eq_nil_of_length_eq_zero hx
    rcases nilc m with rfl | ⟨m', c, rfl⟩
    · rfl
    · exfalso
      have hc := hm c (by simp)
      have h0 : packN [] = 0 := rfl
      rw [sumM_c, h0] at h
      obtain ⟨k, hk⟩ : ∃ k, M = 32 * k := ⟨_, hM.trans (half j (by omega))⟩
      obtain ⟨q, hq⟩ := Nat.dvd_of_mod_eq_zero h
      have e : sNat (stM (sumM m') c) = 32 * (k * q) := by rw [hq, hk, Nat.mul_assoc]
      rcases stM_n (s := sumM m') hc.1 hc.2 with h1 | h1 <;> omega
  | succ n ih =>
    intro j x m hx hj hxl hm M hM h
    rcases nilc x with rfl | ⟨x', b, rfl⟩
    · cases hx
    · have hb := hxl b (by simp)
      have hx' : x'.length = n := by simpa using hx
      have hl' : ∀ c ∈ x', 97 ≤ c ∧ c ≤ 122 := fun c hc => hxl c (by simp [hc])
      have hp := packN_lt n x' hx' hl'
      have hp5 : 32 ^ n ≤ 32 ^ 4 := Nat.pow_le_pow_right (by decide) (by omega)
      rw [packN_c] at h
      have hd : M ∣ 2 ^ 64 := by rw [hM]; exact Nat.pow_dvd_pow 2 (by omega)
      obtain ⟨k, hk, hM2, hk2⟩ : ∃ k, M = 32 * k ∧ k = 2 ^ (64 - 5 * (j + 1)) ∧ 2 ^ 30 ≤ k := ⟨2 ^ (59 - 5 * j), hM.trans (half j (by omega)), by rw [show 64 - 5 * (j + 1) = 59 - 5 * j by omega], Nat.pow_le_pow_right (by decide) (by omega)⟩
      rcases nilc m with rfl | ⟨m', c, rfl⟩
      · exfalso
        have : sNat (sumM []) = 0 := rfl
        rw [this, Nat.zero_mod] at h
        omega
      · have hc := hm c (by simp)
        rw [sumM_c] at h
        have hdm := Nat.div_add_mod (sNat (stM (sumM m') c)) M
        rw [h, hk] at hdm
        have e2 : 32 * k * (sNat (stM (sumM m') c) / (32 * k)) = 32 * (k * (sNat (stM (sumM m') c) / (32 * k))) := Nat.mul_assoc _ _ _
        rw [e2] at hdm
        rcases stM_n (s := sumM m') hc.1 hc.2 with h1 | h1
        · have hbc : c = b := by omega
          have hr : sNat (sumM m') % k = packN x' := by
            have : (32 * sNat (sumM m') + (c - 96)) % 2 ^ 64 % (32 * k) = packN x' * 32 + (b - 96) := by rw [← h1, ← hk]; exact h
            rw [Nat.mod_mod_of_dvd _ (by rw [← hk]; exact hd)] at this
            have h3 : (32 * sNat (sumM m') + (c - 96)) % (32 * k) = 32 * (sNat (sumM m') % k) + (c - 96) := by
              have e := Nat.div_add_mod (sNat (sumM m')) k
              have lt := Nat.mod_lt (sNat (sumM m')) (show 0 < k by omega)
              have e4 : 32 * sNat (sumM m') + (c - 96) = 32 * (sNat (sumM m') % k) + (c - 96) + 32 * k * (sNat (sumM m') / k) := by
                rw [Nat.mul_assoc]; omega
              rw [e4, Nat.add_mul_mod_self_left, Nat.mod_eq_of_lt (by omega)]
            rw [h3] at this
            omega
          rw [hbc, ih (j + 1) x' m' hx' (by omega) hl' (fun c hc => hm c (by simp [hc])) k hM2 hr]
        · exfalso
          rw [h1] at hdm
          obtain ⟨z, hz⟩ := hd
          rw [hk] at hz
          have : (2 ^ 64 - 1) % (32 * k) = 32 * k - 1 := by
            have p : 0 < z := by
              rcases Nat.eq_zero_or_pos z with h | h
              · rw [h, Nat.mul_zero] at hz; omega
              · exact h
            have e5 : 2 ^ 64 - 1 = (32 * k - 1) + 32 * k * (z - 1) := by
              rw [Nat.mul_sub, ← hz, Nat.mul_one]
              have : 32 * k ≤ 2 ^ 64 := by rw [hz]; exact Nat.le_mul_of_pos_right _ p
              omega
            rw [e5, Nat.add_mul_mod_self_left, Nat.mod_eq_of_lt (by omega)]
          rw [h1, hk, this] at h
          omega
theorem sumM_eq {x m : List Nat} (hx : x.length ≤ 5) (hxl : ∀ c ∈ x, 97 ≤ c ∧ c ≤ 122) (hm : ∀ c ∈ m, 97 ≤ c ∧ c ≤ 122) : sumM m = sumM x ↔ m = x := by
  refine ⟨fun h => ?_, fun h => by rw [h]⟩
  have g : ∀ (n : Nat) (x : List Nat), x.length = n → n ≤ 5 → (∀ c ∈ x, 97 ≤ c ∧ c ≤ 122) → sNat (sumM x) = packN x := by
    intro n
    induction n with
    | zero =>
      intro x hx _ _
      obtain rfl : x = [] := List.eq_nil_of_length_eq_zero hx
      rfl
    | succ n ih =>
      intro x hx h5 hl
      rcases nilc x with rfl | ⟨x', b, rfl⟩
      · cases hx
      · have hb := hl b (by simp)
        have hx' : x'.length = n := by simpa using hx
        have hl' : ∀ c ∈ x', 97 ≤ c ∧ c ≤ 122 := fun c hc => hl c (by simp [hc])
        have hp := packN_lt n x' hx' hl'
        have hp5 : 32 ^ n ≤ 32 ^ 4 := Nat.pow_le_pow_right (by decide) (by omega)
        have e := ih x' hx' (by omega) hl'
        have cmp : lg_cmp (sumM x') (1125899906842624 : Int64) ≤ 0 := by
          unfold lg_cmp
          rw [if_neg]
          · split <;> decide
          · intro h
            have h := Int64.lt_iff_toInt_lt.mp h
            have e1 : (sumM x').toInt = packN x' := by
              have : (sumM x').toInt = (sumM x').toBitVec.toInt := rfl
              rw [this, BitVec.toInt_eq_toNat_of_lt (by rw [← sNat_bv, e]; omega), ← sNat_bv, e]
            have e2 : (1125899906842624 : Int64).toInt = 1125899906842624 := by decide
            omega
        rw [sumM_c, packN_c]
        unfold stM
        rw [if_pos cmp, Int64.sub_eq_add_neg, Int64.add_assoc, d96 b (by omega) hb.1, sNat_bv, Int64.toBitVec_add, Int64.toBitVec_mul, BitVec.toNat_add, BitVec.toNat_mul]
        show ((32 * sNat (sumM x')) % 2 ^ 64 + sNat (Int64.ofNat (b - 96))) % 2 ^ 64 = _
        rw [ofNat_n (by omega), e]
        omega
  have e := g x.length x rfl hx hxl
  have hp := packN_lt _ x rfl hxl
  have hp5 : 32 ^ x.length ≤ 32 ^ 5 := Nat.pow_le_pow_right (by decide) hx
  refine sumM_l x.length 0 x m rfl (by omega) hxl hm (2 ^ 64) rfl ?_
  rw [h, e, Nat.mod_eq_of_lt (by omega)]
end U17
