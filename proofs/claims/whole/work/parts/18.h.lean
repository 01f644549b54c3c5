/-! A typed command tried: the class's side. -/
section H18
variable {w : Wd} {t : Tr} {σ : cS} {s : St} {q : Cm} {c : Nat}
theorem fc_isEmpty_s (hC : CTr σ t) (h80 : t.N ≤ 80) : fc_X8_isEmpty σ = some (bI (decide (t.N = 0)), σ) := by
  obtain ⟨h1, h2, -⟩ := hC.1.2.1
  unfold fc_X8_isEmpty fc_Jx4a65c_isEmpty_aae02 fc_Jx4a65c_isEmpty_aae02_12
  rw [dr_mk h1, Option.bind_some, h2]
  by_cases z : t.N = 0
  · rw [if_pos (show nI t.N = 0 by rw [z]; rfl), decide_eq_true z, if_pos (show (1 : Int32) &&& 1 = 1 by decide), Option.bind_some]
    exact if_pos (show (1 : Int32) &&& 1 = 1 by decide)
  · rw [if_neg (show ¬ nI t.N = 0 from fun h => z ((jEq (b := 0) (by omega) (by omega)).mp h)), decide_eq_false z, if_pos (show (0 : Int32) &&& 1 = 0 by decide), Option.bind_some]
    exact if_pos (show (0 : Int32) &&& 1 = 0 by decide)
theorem fc_isFull_s (hC : CTr σ t) (h80 : t.N ≤ 80) : fc_X8_isFull σ = some (bI (decide (t.N = 80)), σ) := by
  unfold fc_X8_isFull fc_X8_isFull_17
  rw [hC.1.2.1.size, Option.bind_some]
  by_cases z : t.N = 80
  · rw [if_neg (show ¬ nI t.N < (80 : Int32) from fun h => by have := (jLt (b := 80) (by omega) (by omega)).mp h; omega), decide_eq_true z]
    rfl
  · rw [if_pos (show nI t.N < (80 : Int32) from (jLt (b := 80) (by omega) (by omega)).mpr (by omega)), decide_eq_false z]
    rfl
theorem fc_needPlay_s (hC : CTr σ t) (h80 : t.N ≤ 80) : fc_X11_needPlay σ = some (if t.N = 0 then .inl 2 else .inr (), σ) := by
  unfold fc_X11_needPlay
  rw [fc_isEmpty_s hC h80, Option.bind_some, bI_if]
  by_cases z : t.N = 0
  · rw [if_pos (decide_eq_true z), if_pos z]
  · rw [if_neg (by rw [decide_eq_true_iff]; exact z), if_neg z]
theorem fc_needNoPlay_s (hC : CTr σ t) (h80 : t.N ≤ 80) : fc_X11_needNoPlay σ = some (if t.N = 0 then .inr () else .inl 2, σ) := by
  unfold fc_X11_needNoPlay
  rw [fc_isEmpty_s hC h80, Option.bind_some, bI_if]
  by_cases z : t.N = 0
  · rw [if_pos (decide_eq_true z), if_pos z]
  · rw [if_neg (by rw [decide_eq_true_iff]; exact z), if_neg z]
theorem fc_needNode_s (hw : Wd.ok w) (ht : Tr.ok w t) (hC : CTr σ t) (hQ : ∀ n, 0 < n → n < t.N → cmQ w (t.cm n)) (h18 : 15 ≤ cn σ 18) (h0 : 0 < t.N) (hq : cmQ w q) (hc : RCm σ c q) : fc_X11_needNodeFor σ (some c) = some (if t.N = 80 ∧ sChd t q = none then .inl 2 else .inr (), σ) := by
  obtain ⟨lq, bq, bq2⟩ := cmQ_b hw hq
  have h80 := ht.1.1
  unfold fc_X11_needNodeFor fc_X11_needNodeFor_33
  rw [fc_isFull_s hC h80, Option.bind_some, bI_if]
  by_cases z : t.N = 80
  · rw [if_pos (decide_eq_true z), fc_childBy_s hw ht hC hQ h18 h0 hc lq bq bq2, Option.bind_some]
    cases e : sChd t q with
    | none => rw [if_pos (show oI none = (-1 : Int32) from rfl), if_pos ⟨z, rfl⟩]
    | some n =>
      have hn : n < t.N := by
        have := List.mem_of_find?_eq_some e
        rw [List.mem_range'_1] at this
        omega
      rw [if_neg (show ¬ oI (some n) = (-1 : Int32) from fun h => (jM1 (a := n) (by omega)).mp h), if_neg (fun h => by cases h.2)]
  · rw [if_neg (by rw [decide_eq_true_iff]; exact z), if_neg (fun h => z h.1)]
theorem fc_includes_o {K : Int64} {o : Option Nat} (h : ∀ b, o = some b → b < 40) : fc_X11_includes σ K (oI o) = some (bI (oHas K o), σ) := by
  cases o with
  | none => exact fc_includes_n
  | some k => exact fc_includes_s (h k rfl)
/-- a command as it is understood: its words may be none -/
def unQ (q : Cm) : Prop := (∃ d, d < 6 ∧ q = (1, some d, none)) ∨ q = (10, none, none) ∨ q = (11, none, none) ∨ (∃ v a, 2 ≤ v ∧ v ≤ 8 ∧ (∀ b, a = some b → b < 40) ∧ q = (v, a, none)) ∨ ∃ a b, (∀ x, a = some x → x < 40) ∧ (∀ x, b = some x → x < 40) ∧ q = (9, a, b)
theorem fc_known_s (ht : Tr.ok w t) (hC : CTr σ t) {n : Nat} (hn : n < t.N) (hc : RCm σ c q) (hq : unQ q ∨ ∃ v h, 12 ≤ v ∧ v ≤ 14 ∧ q = (v, h, none)) : fc_X11_usesKnownWords σ (some c) (some n) = some (bI (sKnw (sKn t n) q), σ) := by
  obtain ⟨c1, c2, c3, c4⟩ := hc
  have zero : ∀ v a b, v < 15 → vQ.getD v (0 : Int32) = 0 → RCm σ c (v, a, b) → sKnw (sKn t n) (v, a, b) = true → fc_X11_usesKnownWords σ (some c) (some n) = some (bI (sKnw (sKn t n) (v, a, b)), σ) := by
    intro v a b hv hz hc hk
    unfold fc_X11_usesKnownWords fc_X11_usesKnownWords_31 fc_X11_usesKnownWords_48 fc_X11_usesKnownWords_53
    rw [hC.dn hn, Option.bind_some, fc_wordsOfPath_s ht hC hn, Option.bind_some, dr_mk hc.1, Option.bind_some, hc.2.1, dv_mk hv, Option.bind_some, hz, if_pos (by decide), if_pos (by decide), hk]
    rfl
  have hc0 : RCm σ c q := ⟨c1, c2, c3, c4⟩
  rcases hq with (⟨d, hd, rfl⟩ | rfl | rfl | ⟨v, a, h1, h2, ha, rfl⟩ | ⟨a, b, ha, hb, rfl⟩) | ⟨v, h, h1, h2, rfl⟩
  · exact zero 1 _ _ (by omega) rfl hc0 rfl
  · exact zero 10 _ _ (by omega) rfl hc0 rfl
  · exact zero 11 _ _ (by omega) rfl hc0 rfl
  · have c2 : cR σ 8 c 0 = some v := c2
    have c3 : cI σ 8 c 1 = oI a := c3
    have hv1 : vQ.getD v (0 : Int32) = 1 := vQ_1 ⟨h1, h2⟩
    have hk : sKnw (sKn t n) (v, a, none) = (oHas (sKn t n) a) := by
      unfold sKnw
      rw [if_pos (show 2 ≤ v ∧ v ≤ 9 by omega), if_neg (show ¬ v = 9 by omega), Bool.and_true]
      rfl
    unfold fc_X11_usesKnownWords fc_X11_usesKnownWords_31 fc_X11_usesKnownWords_48 fc_X11_usesKnownWords_52 fc_X11_usesKnownWords_53
    rw [hC.dn hn, Option.bind_some, fc_wordsOfPath_s ht hC hn, Option.bind_some, dr_mk c1, Option.bind_some, c2, dv_mk (by omega), Option.bind_some, hv1, if_neg (by decide), c3, fc_includes_o ha, Option.bind_some, bI_if, if_pos (show (1 : Int32) < 2 by decide), hk]
    generalize (oHas (sKn t n) a) = z
    cases z <;> rfl
  · have c2 : cR σ 8 c 0 = some 9 := c2
    have c3 : cI σ 8 c 1 = oI a := c3
    have c4 : cI σ 8 c 2 = oI b := c4
    have hk : sKnw (sKn t n) (9, a, b) = ((oHas (sKn t n) a) && (oHas (sKn t n) b)) := rfl
    unfold fc_X11_usesKnownWords fc_X11_usesKnownWords_31 fc_X11_usesKnownWords_48 fc_X11_usesKnownWords_52 fc_X11_usesKnownWords_53
    rw [hC.dn hn, Option.bind_some, fc_wordsOfPath_s ht hC hn, Option.bind_some, dr_mk c1, Option.bind_some, c2, dv_mk (by omega), Option.bind_some, show vQ.getD 9 (0 : Int32) = 2 from rfl, if_neg (by decide), c3, fc_includes_o ha, Option.bind_some, bI_if, if_neg (show ¬ (2 : Int32) < 2 by decide), dr_mk c1, Option.bind_some, c4, fc_includes_o hb, Option.bind_some, bI_if, hk]
    generalize (oHas (sKn t n) a) = z
    generalize (oHas (sKn t n) b) = y
    cases z <;> cases y <;> rfl
  · have hz : vQ.getD v (0 : Int32) = 0 := by
      have : v = 12 ∨ v = 13 ∨ v = 14 := by omega
      rcases this with rfl | rfl | rfl <;> rfl
    refine zero v h none (by omega) hz hc0 ?_
    unfold sKnw
    rw [if_neg (show ¬ (2 ≤ v ∧ v ≤ 9) by omega), if_neg (show ¬ v = 9 by omega)]
    rfl
theorem sCmd_un {l : List Nat} (hw : Wd.ok w) (hv : sVerb l ≠ 0) : unQ (sCmd w l (sVerb l)) := by
  have hWl := hw.1.1
  have wl : ∀ m a, sWord w m = some a → a < 40 := fun m a h => by have := (sWord_lt h).1; omega
  have h11 : sVerb l ≤ 11 ∧ (sVerb l = 1 → sOnly l ≠ none) := by
    unfold sVerb
    repeat' split
    all_goals first
      | omega
      | (next h => exact ⟨by omega, fun _ => h⟩)
      | (refine ⟨by omega, fun z => ?_⟩; omega)
  obtain ⟨h11, h1⟩ := h11
  generalize sVerb l = v at hv h11 h1
  by_cases v1 : v = 1
  · obtain ⟨d, hd⟩ := Option.ne_none_iff_exists'.mp (h1 v1)
    rw [v1]
    have : sCmd w l 1 = (1, sOnly l, none) := rfl
    rw [this, hd]
    have hd6 : d < 6 := by
      unfold sOnly at hd
      split at hd
      · exact (sDir_lt hd).1
      · cases hd
    exact Or.inl ⟨d, hd6, rfl⟩
  · by_cases v9 : v = 9
    · rw [v9]
      exact Or.inr (Or.inr (Or.inr (Or.inr ⟨_, _, wl _, wl _, rfl⟩)))
    · by_cases v10 : 10 ≤ v
      · have : v = 10 ∨ v = 11 := by omega
        rcases this with rfl | rfl
        · exact Or.inr (Or.inl rfl)
        · exact Or.inr (Or.inr (Or.inl rfl))
      · have : sCmd w l v = (v, sWord w (sPart l 1), none) := by
          unfold sCmd
          rw [if_neg v1, if_neg v9, if_neg v10]
        rw [this]
        exact Or.inr (Or.inr (Or.inr (Or.inl ⟨v, _, by omega, by omega, wl _, rfl⟩)))
theorem unQ_ok (hq : unQ q) {K : Int64} (hk : sKnw K q = true) (hW : ∀ k, sHas K k = true → k < w.W) : tyQ w q := by
  rcases hq with ⟨d, hd, rfl⟩ | rfl | rfl | ⟨v, a, h1, h2, ha, rfl⟩ | ⟨a, b, ha, hb, rfl⟩
  · exact Or.inl ⟨d, hd, rfl⟩
  · exact Or.inr (Or.inl rfl)
  · exact Or.inr (Or.inr (Or.inl rfl))
  · unfold sKnw at hk
    rw [if_pos (show 2 ≤ v ∧ v ≤ 9 by omega), if_neg (show ¬ v = 9 by omega), Bool.and_true] at hk
    cases a with
    | none => exact absurd hk Bool.false_ne_true
    | some k => exact Or.inr (Or.inr (Or.inr (Or.inl ⟨v, k, h1, h2, hW k hk, rfl⟩)))
  · have hk : (oHas K a && oHas K b) = true := hk
    rw [Bool.and_eq_true] at hk
    cases a with
    | none => exact absurd hk.1 Bool.false_ne_true
    | some k =>
      cases b with
      | none => exact absurd hk.2 Bool.false_ne_true
      | some j => exact Or.inr (Or.inr (Or.inr (Or.inr ⟨k, j, hW k hk.1, hW j hk.2, rfl⟩)))
theorem tyQ_ok (hw : Wd.ok w) (h : tyQ w q) : Cm.ok q := by
  have := hw.1.1
  rcases h with ⟨d, hd, rfl⟩ | rfl | rfl | ⟨v, k, h1, h2, hk, rfl⟩ | ⟨a, b, ha, hb, rfl⟩
  · exact Or.inl ⟨rfl, d, hd, rfl⟩
  · exact Or.inr (Or.inl rfl)
  · exact Or.inr (Or.inr (Or.inl rfl))
  · exact Or.inr (Or.inr (Or.inr (Or.inl ⟨⟨h1, h2⟩, k, by omega, rfl⟩)))
  · exact Or.inr (Or.inr (Or.inr (Or.inr ⟨rfl, ⟨a, by omega, rfl⟩, b, by omega, rfl⟩)))
theorem fc_tried_s (hw : Wd.ok w) (hW : CWd σ w) (ht : Tr.ok w t) (hC : CTr σ t) (hL : cLbs σ) (h0 : 0 < t.N) (hc : RCm σ c q) (hq : unQ q) (hKW : ∀ k, sHas (sKn t t.now) k = true → k < w.W) (h6 : RSt σ 0 s) : ∃ σ' s', fc_X11_tried σ (some c) = some (nI (sTry w (sKn t t.now) (t.st t.now) q).1, σ') ∧ RSt σ' 0 s' ∧ (∀ z, (sTry w (sKn t t.now) (t.st t.now) q).2 = some z → s' = z) ∧ cFr (cSc 0) σ σ' ∧ cn σ' = cn σ := by
  have hn := ht.1.2.1 h0
  have hs := (ht.2.2.1 _ hn).1
  obtain ⟨-, -, r2, -, -, r5, -⟩ := hC.2.1 _ hn
  unfold fc_X11_tried fc_X11_tried_56 sTry
  rw [fc_current_s ht hC h0, Option.bind_some, fc_known_s ht hC hn hc (Or.inl hq), Option.bind_some, bI_if]
  by_cases hk : sKnw (sKn t t.now) q = true
  · rw [if_pos hk, if_pos hk, fc_current_s ht hC h0, Option.bind_some, hC.dn hn, Option.bind_some, r2]
    obtain ⟨σ1, b1, b2, b3, b4⟩ := fc_copy_s (i := 0) (j := t.now + 1) (by omega) r5 h6
    have hty := unQ_ok hq hk hKW
    obtain ⟨σ2, d1, d2, d3, d4⟩ := fc_perform_s hw (hW.fr hL b3 (cSc_W 0)) (hL.fr b3) hs b2 (hc.fr b3 (by unfold cSc; simp)) (tyQ_ok hw hty)
    rw [b1, Option.bind_some, d1, Option.bind_some, bI_if]
    refine ⟨σ2, _, ?_, d2, ?_, b3.tr d3, d4.trans b4⟩
    · cases e : sDo w (t.st t.now) q with
      | none => exact (if_neg Bool.false_ne_true).trans (if_pos (by decide))
      | some z => exact (if_pos rfl).trans (if_pos (by decide))
    · intro z hz
      cases e : sDo w (t.st t.now) q with
      | none => rw [e] at hz; cases hz
      | some y =>
        rw [e] at hz
        exact Option.some.inj hz
  · rw [if_neg hk, if_neg hk]
    exact ⟨σ, s, if_pos (by decide), h6, (fun z hz => by cases hz), cFr.rf _ _, rfl⟩
end H18
