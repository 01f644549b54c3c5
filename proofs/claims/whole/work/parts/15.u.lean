/-! What is typed, and its parts as words. -/
def isTx (l : List Nat) : Prop := l.length ≤ 30 ∧ ∀ c ∈ l, c = 32 ∨ (97 ≤ c ∧ c ≤ 122)
def MTx (τ : mS) (l : List Nat) : Prop := τ.1 2 = nI l.length ∧ ∀ k, k < l.length → τ.2.2.1 1 k = nI (l.getD k 0)
def CTx (σ : cS) (l : List Nat) : Prop := cI σ 1 0 3 = nI l.length ∧ ∀ k, k < l.length → cI σ 14 0 k = nI (l.getD k 0)
theorem gD {l : List Nat} {k : Nat} (h : k < l.length) : l.getD k 0 = l[k] := by
  rw [List.getD_eq_getElem?_getD, List.getElem?_eq_getElem h]; rfl
/-- a row of letters, or none -/
def isLb (l : List Nat) : Prop := l.length ≤ 8 ∧ ∀ c ∈ l, 97 ≤ c ∧ c ≤ 122
/-- a part of it: from i on, d signs -/
def sSeg (l : List Nat) (i d : Nat) : List Nat := (l.drop i).take d
theorem sSeg_s {l : List Nat} {i d : Nat} (h : i < l.length) : sSeg l i (d + 1) = l.getD i 0 :: sSeg l (i + 1) d := by
  unfold sSeg
  rw [List.drop_eq_getElem_cons h, List.take_succ_cons, gD h]
theorem sSeg_len {l : List Nat} {i d : Nat} (h : i + d ≤ l.length) : (sSeg l i d).length = d := by
  unfold sSeg
  rw [List.length_take, List.length_drop]
  omega
theorem sSeg_all (l : List Nat) : sSeg l 0 l.length = l := by
  unfold sSeg
  rw [List.drop_zero, List.take_length]
theorem sSeg_get {l : List Nat} {i d k : Nat} (h : i + d ≤ l.length) : (sSeg l i d).getD k 0 = if k < d then l.getD (i + k) 0 else 0 := by
  unfold sSeg
  rw [List.getD_eq_getElem?_getD, List.getD_eq_getElem?_getD, List.getElem?_take, List.getElem?_drop]
  split <;> rfl
theorem sSeg_mem {l : List Nat} {i d c : Nat} (h : c ∈ sSeg l i d) : c ∈ l := List.mem_of_mem_drop (List.mem_of_mem_take h)
theorem getD_tx {l : List Nat} (hl : isTx l) {k : Nat} (h : k < l.length) : l.getD k 0 = 32 ∨ (97 ≤ l.getD k 0 ∧ l.getD k 0 ≤ 122) := by
  rw [gD h]
  exact hl.2 _ (List.getElem_mem h)
def stp (a : Int64) (c : Nat) : Int64 := a * 32 + Int64.ofNat (c - 96)
theorem pack_stp (l : List Nat) : pack l = l.foldl stp 0 := rfl
def sPck : List Nat → Int64 → Int64
  | [], a => a
  | c :: l, a => if c = 32 then 0 else sPck l (stp a c)
theorem sPck_no {l : List Nat} (h : ∀ c ∈ l, c ≠ 32) (a : Int64) : sPck l a = l.foldl stp a := by
  induction l generalizing a with
  | nil => rfl
  | cons c l ih =>
    show (if c = 32 then 0 else sPck l (stp a c)) = _
    rw [if_neg (h c (List.mem_cons_self)), ih (fun c hc => h c (List.mem_cons_of_mem _ hc))]
    rfl
theorem sPck_sp {l : List Nat} (h : 32 ∈ l) (a : Int64) : sPck l a = 0 := by
  induction l generalizing a with
  | nil => cases h
  | cons c l ih =>
    show (if c = 32 then 0 else sPck l (stp a c)) = _
    by_cases q : c = 32
    · rw [if_pos q]
    · rw [if_neg q]
      refine ih ?_ _
      rcases List.mem_cons.mp h with h | h
      · exact absurd h.symm q
      · exact h
def sP8 (m : List Nat) : Int64 := if 8 < m.length then 0 else sPck m 0
theorem shl5 (a : Int64) : a <<< ((5 : Int32).toInt64 &&& 63) = a * 32 := by
  refine sNat_inj ?_
  rw [sNat_bv, sNat_bv, Int64.toBitVec_shiftLeft, Int64.toBitVec_mul, BitVec.toNat_mul]
  show (a.toBitVec <<< (5#64)).toNat = _
  rw [BitVec.shiftLeft_eq', BitVec.toNat_shiftLeft, Nat.shiftLeft_eq]
  rfl
theorem d64 : ∀ c, c < 123 → 97 ≤ c → (((nI c - (97 : Int32)) + (1 : Int32)).toInt64) = Int64.ofNat (c - 96) := by decide +kernel
section SU
variable {σ : cS} {τ : mS} {w : Wd} {l : List Nat}
theorem fc_packed_l (hl : isTx l) (hX : CTx σ l) : ∀ (d i : Nat) (a : Int64) (f : Nat), i + d ≤ l.length → d < f → fc_X7_packed_15 f σ (nI (i + d)) a (nI i) = some (sPck (sSeg l i d) a, σ) := by
  have h30 := hl.1
  intro d
  induction d with
  | zero =>
    intro i a f hi hf
    obtain ⟨f, rfl⟩ : ∃ k, f = k + 1 := ⟨f - 1, by omega⟩
    rw [fc_X7_packed_15, if_pos (by rw [jLe (by omega) (by omega)]; omega)]
    rfl
  | succ d ih =>
    intro i a f hi hf
    obtain ⟨f, rfl⟩ : ∃ k, f = k + 1 := ⟨f - 1, by omega⟩
    have x1 : ¬ i + (d + 1) ≤ i := by omega
    have x2 : ¬ 30 ≤ i := by omega
    have c1 : (nI i).toNatClampNeg = i := jCl (by omega)
    have e1 := hX.2 i (by omega)
    have g := getD_tx hl (show i < l.length by omega)
    rw [fc_X7_packed_15, sSeg_s (by omega), shl5]
    show _ = some (if l.getD i 0 = 32 then 0 else sPck _ (stp a (l.getD i 0)), σ)
    generalize l.getD i 0 = c at *
    simp (disch := omega) only [n0, n1, show ((32 : Int32) = nI 32) from rfl, jLe, jLt, jEq, x1, x2, c1, e1, Nat.not_lt_zero, false_or, if_false, jAdd]
    by_cases q : c = 32
    · rw [if_pos q, if_pos q]
    · rw [if_neg q, if_neg q, ← n1, d64 c (by omega) (by omega)]
      have := ih (i + 1) (stp a c) f (by omega) (by omega)
      rw [show i + 1 + d = i + (d + 1) by omega] at this
      exact this
theorem fc_packed_s (hl : isTx l) (hX : CTx σ l) {i e : Nat} (hi : i ≤ e) (he : e ≤ l.length) : fc_X7_packed σ (nI i) (nI e) = some (sP8 (sSeg l i (e - i)), σ) := by
  have h30 := hl.1
  unfold fc_X7_packed sP8
  rw [sSeg_len (by omega)]
  simp (disch := omega) only [show ((8 : Int32) = nI 8) from rfl, jSub, jLe]
  by_cases q : e - i ≤ 8
  · rw [if_pos q, if_neg (by omega)]
    have := fc_packed_l hl hX (e - i) i 0 3000 (by omega) (by omega)
    rw [show i + (e - i) = e by omega] at this
    exact this
  · rw [if_neg q, if_pos (by omega)]
theorem nilc (l : List Nat) : l = [] ∨ ∃ (m : List Nat) (c : Nat), l = m ++ [c] := by
  rcases List.eq_nil_or_concat l with h | ⟨m, c, h⟩
  · exact Or.inl h
  · exact Or.inr ⟨m, c, by rw [h, List.concat_eq_append]⟩
def packN (l : List Nat) : Nat := l.foldl (fun a c => a * 32 + (c - 96)) 0
theorem packN_c (l : List Nat) (c : Nat) : packN (l ++ [c]) = packN l * 32 + (c - 96) := by
  unfold packN
  rw [List.foldl_append]; rfl
theorem packN_inj : ∀ (n : Nat) (l m : List Nat), l.length ≤ n → (∀ c ∈ l, 97 ≤ c ∧ c ≤ 122) → (∀ c ∈ m, 97 ≤ c ∧ c ≤ 122) → packN l = packN m → l = m := by
  intro n
  induction n with
  | zero =>
    intro l m hn hl hm h
    obtain rfl : l = [] := List.eq_nil_of_length_eq_zero (by omega)
    rcases nilc m with rfl | ⟨m', c, rfl⟩
    · rfl
    · rw [packN_c] at h
      have := hm c (by simp)
      have h0 : packN [] = 0 := rfl
      omega
  | succ n ih =>
    intro l m hn hl hm h
    rcases nilc l with rfl | ⟨l', b, rfl⟩ <;> rcases nilc m with rfl | ⟨m', c, rfl⟩
    · rfl
    · rw [packN_c] at h
      have := hm c (by simp)
      have h0 : packN [] = 0 := rfl
      omega
    · rw [packN_c] at h
      have := hl b (by simp)
      have h0 : packN [] = 0 := rfl
      omega
    · rw [packN_c, packN_c] at h
      have h1 := hl b (by simp)
      have h2 := hm c (by simp)
      rw [List.length_append] at hn
      have h3 : packN l' = packN m' := by omega
      have h4 : b = c := by omega
      rw [h4, ih l' m' (by simp at hn; omega) (fun c hc => hl c (by simp [hc])) (fun c hc => hm c (by simp [hc])) h3]
theorem ofNat_n {k : Nat} (h : k < 2 ^ 64) : sNat (Int64.ofNat k) = k := by
  show (BitVec.ofNat 64 k).toNat = k
  rw [BitVec.toNat_ofNat, Nat.mod_eq_of_lt h]
theorem pack_n : ∀ (n : Nat) (l : List Nat), l.length = n → n ≤ 8 → (∀ c ∈ l, 97 ≤ c ∧ c ≤ 122) → sNat (pack l) = packN l ∧ packN l < 32 ^ n := by
  intro n
  induction n with
  | zero =>
    intro l hn _ _
    obtain rfl : l = [] := List.eq_nil_of_length_eq_zero hn
    exact ⟨rfl, by decide⟩
  | succ n ih =>
    intro l hn h8 hl
    rcases nilc l with rfl | ⟨l', b, rfl⟩
    · cases hn
    · have h1 := hl b (by simp)
      obtain ⟨h2, h3⟩ := ih l' (by simpa using hn) (by omega) (fun c hc => hl c (by simp [hc]))
      have h4 : 32 ^ n ≤ 32 ^ 7 := Nat.pow_le_pow_right (by decide) (by omega)
      have e : pack (l' ++ [b]) = stp (pack l') b := by
        rw [pack_stp, List.foldl_append]; rfl
      have e2 : sNat (pack l' * 32) = sNat (pack l') * 32 := by
        rw [sNat_bv, Int64.toBitVec_mul, BitVec.toNat_mul]
        show (sNat (pack l') * 32) % 2 ^ 64 = _
        omega
      rw [e, packN_c, Nat.pow_succ]
      refine ⟨?_, by omega⟩
      unfold stp
      rw [sNat_add (by rw [e2, ofNat_n (by omega)]; omega), e2, ofNat_n (by omega), h2]
theorem pack_inj {l m : List Nat} (hl : isLb l) (hm : isLb m) : pack l = pack m ↔ l = m := by
  refine ⟨fun h => ?_, fun h => by rw [h]⟩
  have h1 := (pack_n _ l rfl hl.1 hl.2).1
  have h2 := (pack_n _ m rfl hm.1 hm.2).1
  exact packN_inj _ l m (Nat.le_refl _) hl.2 hm.2 (by rw [← h1, ← h2, h])
theorem isLb_nil : isLb [] := ⟨Nat.zero_le _, fun c h => by cases h⟩
theorem sP8_eq {l m : List Nat} (hl : isLb l) (hn : l ≠ []) (hm : ∀ c ∈ m, c = 32 ∨ (97 ≤ c ∧ c ≤ 122)) : pack l = sP8 m ↔ l = m := by
  have h0 : pack l ≠ 0 := fun h => hn ((pack_inj hl isLb_nil).mp h)
  unfold sP8
  by_cases q : 8 < m.length
  · rw [if_pos q]
    exact iff_of_false h0 (fun h => by have := hl.1; rw [h] at this; omega)
  · rw [if_neg q]
    by_cases q2 : 32 ∈ m
    · rw [sPck_sp q2]
      exact iff_of_false h0 (fun h => by have := hl.2 32 (by rw [h]; exact q2); omega)
    · have hm2 : ∀ c ∈ m, c ≠ 32 := fun c hc e => q2 (by rw [← e]; exact hc)
      rw [sPck_no hm2]
      exact pack_inj hl ⟨by omega, fun c hc => by have := hm c hc; have := hm2 c hc; omega⟩
/-- a row of 1 to 8 letters -/
def sRow (l : List Nat) : Bool := decide (l ≠ [] ∧ l.length ≤ 8 ∧ ∀ c ∈ l, c ≠ 32)
theorem sP8_0 {m : List Nat} (hm : ∀ c ∈ m, c = 32 ∨ (97 ≤ c ∧ c ≤ 122)) : sP8 m = 0 ↔ sRow m = false := by
  unfold sP8 sRow
  rw [decide_eq_false_iff_not]
  by_cases q : 8 < m.length
  · rw [if_pos q]
    exact iff_of_true rfl (fun h => by omega)
  · rw [if_neg q]
    by_cases q2 : 32 ∈ m
    · rw [sPck_sp q2]
      exact iff_of_true rfl (fun h => h.2.2 _ q2 rfl)
    · have hm2 : ∀ c ∈ m, c ≠ 32 := fun c hc e => q2 (by rw [← e]; exact hc)
      rw [sPck_no hm2]
      have hb : isLb m := ⟨by omega, fun c hc => by have := hm c hc; have := hm2 c hc; omega⟩
      have h := pack_inj hb isLb_nil
      refine Iff.trans h ⟨fun h z => z.1 h, fun z => ?_⟩
      by_cases q3 : m = []
      · exact q3
      · exact absurd ⟨q3, by omega, hm2⟩ z
end SU
