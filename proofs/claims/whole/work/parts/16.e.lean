/-! The node in common: both sides. -/
theorem find_cg {p q : Nat → Bool} : ∀ l : List Nat, (∀ m ∈ l, p m = q m) → l.find? p = l.find? q := by
  intro l
  induction l with
  | nil => intro _; rfl
  | cons x l ih =>
    intro h
    rw [List.find?_cons, List.find?_cons, h x List.mem_cons_self, ih (fun m hm => h m (List.mem_cons_of_mem _ hm))]
section SE
variable {σ : cS} {τ : mS} {w : Wd} {t : Tr}
theorem sDep_s (ht : Tr.ok w t) {n : Nat} (hn : n < t.N) : sDep t n = if n = 0 then 0 else sDep t (t.par n) + 1 := by
  unfold sDep
  rw [sPath_s ht hn, List.length_cons]
  by_cases q : n = 0
  · rw [if_pos q, if_pos q]; rfl
  · have h1 := ht.2.1 n (by omega) hn
    have h2 := sPath_pos ht (n := t.par n) (by omega)
    rw [if_neg q, if_neg q]
    omega
theorem mem_dep (ht : Tr.ok w t) {m : Nat} : ∀ n, n < t.N → m ∈ sPath t n → m = n ∨ (m < t.N ∧ sDep t m < sDep t n) := by
  intro n
  induction n using Nat.strongRecOn with
  | _ n ih =>
    intro hn h
    rw [sPath_s ht hn] at h
    rcases List.mem_cons.mp h with h | h
    · exact Or.inl h
    · by_cases q : n = 0
      · rw [if_pos q] at h; cases h
      · rw [if_neg q] at h
        have h1 := ht.2.1 n (by omega) hn
        have hd := sDep_s ht hn
        rw [if_neg q] at hd
        rcases ih _ h1 (by omega) h with rfl | ⟨h3, h4⟩
        · exact Or.inr ⟨by omega, by omega⟩
        · exact Or.inr ⟨h3, by omega⟩
theorem self_mem (ht : Tr.ok w t) {n : Nat} (hn : n < t.N) : n ∈ sPath t n := by
  rw [sPath_s ht hn]; exact List.mem_cons_self
def sCom (t : Tr) (a b : Nat) : Option Nat := (sPath t a).find? fun m => (sPath t b).contains m
theorem fc_lastInCommon_l (ht : Tr.ok w t) (hC : CTr σ t) {b : Nat} (hb : b < t.N) : ∀ (n : Nat) (f : Nat), n < t.N → n + 1 < f → fc_X2_lastInCommon_2 f σ (some b) (some n) = some (oI (sCom t n b), σ) := by
  have h80 := ht.1.1
  intro n
  induction n using Nat.strongRecOn with
  | _ n ih =>
    intro f hN hf
    obtain ⟨f, rfl⟩ : ∃ k, f = k + 1 := ⟨f - 1, by omega⟩
    obtain ⟨e0, e1, -⟩ := hC.2.1 n hN
    unfold sCom at ih ⊢
    rw [fc_X2_lastInCommon_2, if_neg (fun h => by cases h), hC.dn hN, Option.bind_some, fc_isOnPathOf_s ht hC hN hb, Option.bind_some, bI_if, sPath_s ht hN, List.find?_cons]
    simp only [hC.dn hN, Option.bind_some, e0, e1]
    unfold sOnP
    cases q2 : (sPath t b).contains n with
    | true => rfl
    | false =>
      rw [if_neg Bool.false_ne_true]
      by_cases q : n = 0
      · obtain ⟨f, rfl⟩ : ∃ k, f = k + 1 := ⟨f - 1, by omega⟩
        rw [if_pos q, if_pos q, fc_X2_lastInCommon_2]
        exact if_pos rfl
      · have := ht.2.1 n (by omega) hN
        rw [if_neg q, if_neg q]
        exact ih _ this _ (by omega) (by omega)
theorem fc_lastInCommon_s (ht : Tr.ok w t) (hC : CTr σ t) {a b : Nat} (ha : a < t.N) (hb : b < t.N) : fc_X2_lastInCommon σ (some a) (some b) = some (oI (sCom t a b), σ) :=
  fc_lastInCommon_l ht hC hb a 3000 ha (by have := ht.1.1; omega)
theorem fm_common_l (ht : Tr.ok w t) (hM : MTr τ w t) : ∀ (d a b f : Nat), a < t.N → b < t.N → a + b ≤ d → d < f → fm_common_35 f τ (nI a) (nI b) = some (oI (sCom t a b), τ) := by
  have h80 := ht.1.1
  intro d
  induction d with
  | zero =>
    intro a b f ha hb hd hf
    obtain ⟨f, rfl⟩ : ∃ k, f = k + 1 := ⟨f - 1, by omega⟩
    have e : a = b := by omega
    rw [fm_common_35, if_pos (by rw [e])]
    unfold sCom
    rw [sPath_s ht ha, List.find?_cons, List.contains_iff_mem.mpr (by rw [← e]; exact self_mem ht ha)]
    rfl
  | succ d ih =>
    intro a b f ha hb hd hf
    obtain ⟨f, rfl⟩ : ∃ k, f = k + 1 := ⟨f - 1, by omega⟩
    by_cases e : a = b
    · rw [fm_common_35, if_pos (by rw [e])]
      unfold sCom
      rw [sPath_s ht ha, List.find?_cons, List.contains_iff_mem.mpr (by rw [← e]; exact self_mem ht ha)]
      rfl
    · have da := sDep_s ht ha
      have db := sDep_s ht hb
      have la := sPath_le ht a ha
      have lb := sPath_le ht b hb
      have la1 : sDep t a < 100 := by unfold sDep; omega
      have lb1 : sDep t b < 100 := by unfold sDep; omega
      obtain ⟨ea, -⟩ := hM.2 a ha
      obtain ⟨eb, -⟩ := hM.2 b hb
      have xa : ¬ 80 ≤ a := by omega
      have xb : ¬ 80 ≤ b := by omega
      have ca : (nI a).toNatClampNeg = a := jCl (by omega)
      have cb : (nI b).toNatClampNeg = b := jCl (by omega)
      rw [fm_common_35]
      simp (disch := omega) only [n0, jEq, jLt, e, xa, xb, ca, cb, if_false, fm_depthOf_s ht hM ha, fm_depthOf_s ht hM hb, Option.bind_some, Nat.not_lt_zero, false_or, ea, eb]
      by_cases q : sDep t a < sDep t b
      · have b0 : b ≠ 0 := fun h => by rw [if_pos h] at db; omega
        have hp := ht.2.1 b (by omega) hb
        rw [if_pos q, if_neg b0, ih a (t.par b) f ha (by omega) (by omega) (by omega)]
        unfold sCom
        congr 3
        refine find_cg _ ?_
        intro m hm
        rw [sPath_s ht hb, if_neg b0, List.contains_cons]
        have : (m == b) = false := by
          rw [beq_eq_false_iff_ne]
          intro h
          rw [h] at hm
          rcases mem_dep ht a ha hm with h | h
          · exact e h.symm
          · omega
        rw [this, Bool.false_or]
      · have a0 : a ≠ 0 := fun h => by
          rw [if_pos h] at da
          by_cases b0 : b = 0
          · exact e (h.trans b0.symm)
          · rw [if_neg b0] at db; omega
        have hp := ht.2.1 a (by omega) ha
        rw [if_neg q, if_neg a0, ih (t.par a) b f (by omega) hb (by omega) (by omega)]
        unfold sCom
        rw [sPath_s ht ha, if_neg a0, List.find?_cons]
        have : (sPath t b).contains a = false := by
          rw [Bool.eq_false_iff]
          intro h
          rcases mem_dep ht b hb (List.contains_iff_mem.mp h) with h | h
          · exact e h
          · omega
        rw [this]
end SE
