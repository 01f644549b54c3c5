/-! The builder of lines: what an addition makes of it. -/
def SBd (σ : cS) (l : List Nat) : Prop := SBi σ ∧ cI σ 11 0 3 = nI l.length ∧ (∀ c ∈ l, c < 128) ∧ ∃ b, cR σ 11 0 0 = some b ∧ l.length ≤ cln σ 16 b ∧ ∀ k, k < l.length → cI σ 16 b k = nI (l.getD k 0)
/-- nothing but builders and their rows is changed -/
def KB (σ σ' : cS) : Prop := (∀ k, cn σ k ≤ cn σ' k) ∧ (∀ k, k ≠ 16 → cn σ' k = cn σ k) ∧ ∀ k i, i < cn σ k → cln σ' k i = cln σ k i ∧ (k = 17 → cel σ' i = cel σ i) ∧ (k ≠ 11 → k ≠ 16 → cI σ' k i = cI σ k i ∧ cJ σ' k i = cJ σ k i ∧ cR σ' k i = cR σ k i)
theorem KB.rf (σ : cS) : KB σ σ := ⟨fun _ => Nat.le_refl _, fun _ _ => rfl, fun _ _ _ => ⟨rfl, fun _ => rfl, fun _ _ => ⟨rfl, rfl, rfl⟩⟩⟩
theorem KB.tr {a b c : cS} (h : KB a b) (h2 : KB b c) : KB a c := by
  obtain ⟨x1, x2, x3⟩ := h
  obtain ⟨y1, y2, y3⟩ := h2
  refine ⟨fun k => Nat.le_trans (x1 k) (y1 k), fun k hk => (y2 k hk).trans (x2 k hk), fun k i hi => ?_⟩
  obtain ⟨p1, p2, p3⟩ := x3 k i hi
  obtain ⟨q1, q2, q3⟩ := y3 k i (Nat.lt_of_lt_of_le hi (x1 k))
  refine ⟨q1.trans p1, fun z => (q2 z).trans (p2 z), fun z1 z2 => ?_⟩
  obtain ⟨u1, u2, u3⟩ := p3 z1 z2
  obtain ⟨v1, v2, v3⟩ := q3 z1 z2
  exact ⟨v1.trans u1, v2.trans u2, v3.trans u3⟩
theorem KB.I {σ : cS} {k i f : Nat} {v : Int32} (h : k = 11 ∨ k = 16) : KB σ (uI σ k i f v) :=
  ⟨fun _ => Nat.le_refl _, fun _ _ => rfl, fun k' i' _ => ⟨rfl, fun _ => rfl, fun z1 z2 => ⟨funext fun f' => if_neg (fun z => by rcases h with h | h <;> omega), rfl, rfl⟩⟩⟩
theorem KB.R {σ : cS} {k i f : Nat} {v : Option Nat} (h : k = 11 ∨ k = 16) : KB σ (uR σ k i f v) :=
  ⟨fun _ => Nat.le_refl _, fun _ _ => rfl, fun k' i' _ => ⟨rfl, fun _ => rfl, fun z1 z2 => ⟨rfl, rfl, funext fun f' => if_neg (fun z => by rcases h with h | h <;> omega)⟩⟩⟩
theorem KB.N {σ : cS} {n t : Nat} : KB σ (uN σ 16 n t) := by
  refine ⟨fun k => ?_, fun k hk => if_neg hk, fun k i hi => ⟨?_, fun z => ?_, fun z1 z2 => ⟨funext fun f => ?_, funext fun f => ?_, funext fun f => ?_⟩⟩⟩
  · show cn σ k ≤ if k = 16 then cn σ 16 + 1 else cn σ k
    by_cases z : k = 16
    · rw [if_pos z, z]; omega
    · rw [if_neg z]; omega
  · rw [zL_uN, if_neg (fun z => by have := z.2; rw [z.1] at hi; omega)]
  · rw [zE_uN, if_neg (fun z => by have := z.1; omega)]
  · rw [zI_uN, if_neg (fun z => z2 z.1)]
  · rw [zJ_uN, if_neg (fun z => z2 z.1)]
  · rw [zR_uN, if_neg (fun z => z2 z.1)]
theorem KB.B {σ : cS} {i sp j dp n : Nat} : KB σ (uBb σ i sp j dp n) :=
  ⟨fun _ => Nat.le_refl _, fun _ _ => rfl, fun k' i' _ => ⟨rfl, fun _ => rfl, fun z1 z2 => ⟨funext fun f' => if_neg (fun z => z2 z.1), rfl, rfl⟩⟩⟩
theorem KB.T {σ : cS} {i sp j dp n : Nat} : KB σ (uBt σ i sp j dp n) :=
  ⟨fun _ => Nat.le_refl _, fun _ _ => rfl, fun k' i' _ => ⟨rfl, fun _ => rfl, fun z1 z2 => ⟨funext fun f' => if_neg (fun z => z2 z.1), rfl, rfl⟩⟩⟩
def kbP (σ : cS) : List (Nat × Nat) := ((List.range (cn σ 11)).map fun i => (11, i)) ++ ((List.range (cn σ 16)).map fun i => (16, i))
theorem kbP_1 {σ : cS} : ∀ q ∈ kbP σ, q.1 = 11 ∨ q.1 = 16 := by
  intro q hq
  unfold kbP at hq
  rw [List.mem_append, List.mem_map, List.mem_map] at hq
  rcases hq with ⟨i, -, rfl⟩ | ⟨i, -, rfl⟩
  · exact Or.inl rfl
  · exact Or.inr rfl
theorem KB.cFr {σ σ' : cS} (h : KB σ σ') : cFr (kbP σ) σ σ' := by
  obtain ⟨x1, x2, x3⟩ := h
  refine ⟨x1, fun k i hi => ?_⟩
  obtain ⟨p1, p2, p3⟩ := x3 k i hi
  refine ⟨p1, p2, fun hq => ?_⟩
  have h11 : k ≠ 11 := fun z => hq (by
    unfold kbP
    rw [z] at hi ⊢
    exact List.mem_append_left _ (List.mem_map.mpr ⟨i, List.mem_range.mpr hi, rfl⟩))
  have h16 : k ≠ 16 := fun z => hq (by
    unfold kbP
    rw [z] at hi ⊢
    exact List.mem_append_right _ (List.mem_map.mpr ⟨i, List.mem_range.mpr hi, rfl⟩))
  exact p3 h11 h16
theorem CR.kb {g : Gm} {σ σ' : cS} (h : CR σ g) (hk : KB σ σ') (hs : SBi σ') : CR σ' g := by
  obtain ⟨s0, h8⟩ := h.2.2.2.2.2.2.2
  refine h.fr hk.cFr (fun q hq => ?_) (fun k _ _ h16 => hk.2.1 k h16) ⟨s0, h8.fr hk.cFr (fun q hq hq2 => ?_)⟩ hs
  · rcases kbP_1 q hq with z | z
    · exact Or.inr (Or.inr (Or.inr (Or.inr (Or.inr (Or.inl z)))))
    · exact Or.inr (Or.inr (Or.inr (Or.inr (Or.inr (Or.inr z)))))
  · have := kbP_1 q hq
    unfold cSc at hq2
    simp at hq2
    rcases hq2 with rfl | rfl | rfl | rfl <;> simp at this
theorem shr0 : ∀ c, c < 200 → (nI c) >>> ((0 : Int32) &&& 31) = nI c := by decide +kernel
theorem shl0 : ∀ c, c < 200 → (nI c) <<< ((0 : Int32) &&& 31) = nI c := by decide +kernel
def arr (σ : cS) : Nat := (cR σ 11 0 0).getD 0
section X20
variable {σ σ1 : cS} {l m : List Nat}
theorem sbL (h : SBd σ l) : cR σ 11 0 0 = some (arr σ) ∧ arr σ < cn σ 16 ∧ cI σ 11 0 1 = 0 ∧ cI σ 11 0 3 = nI l.length ∧ (cln σ 16 (arr σ) = 16 ∨ cln σ 16 (arr σ) = 34 ∨ cln σ 16 (arr σ) = 70 ∨ cln σ 16 (arr σ) = 142) ∧ l.length ≤ cln σ 16 (arr σ) ∧ (∀ k, k < l.length → cI σ 16 (arr σ) k = nI (l.getD k 0)) ∧ ∀ f, f < cln σ 16 (arr σ) → (cI σ 16 (arr σ) f).toInt8.toInt32 = cI σ 16 (arr σ) f := by
  obtain ⟨⟨⟨a1, a2, a3⟩, b, b1, b2, b3, b4⟩, c1, c2, b', d1, d2, d3⟩ := h
  have e : arr σ = b := by unfold arr; rw [b1]; rfl
  have e' : b' = b := by rw [b1] at d1; exact (Option.some.inj d1).symm
  rw [e'] at d2 d3
  rw [e]
  exact ⟨b1, b2, a3, c1, b3, d2, d3, b4⟩
/-- room for a row of n signs -/
theorem sb_room (h : SBd σ l) {n : Nat} (h1 : l.length ≤ n) (h2 : n ≤ l.length + 6) (h3 : n ≤ 142) :
    (n ≤ cln σ 16 (arr σ) ∧ fc_J5_ensureCapacityInternal_d00dfZ σ (nI n) = some σ) ∨ (cln σ 16 (arr σ) < n ∧ fc_J5_ensureCapacityInternal_d00dfZ σ (nI n) = none ∧ ∃ σ', fc_J5_ensureCapacityInternal_d00dfS σ (nI n) = some σ' ∧ SBd σ' l ∧ lev σ' = lev σ + 1 ∧ n ≤ cln σ' 16 (arr σ') ∧ KB σ σ') := by
  obtain ⟨a1, a2, a3, a4, a5, a6, a7, a8⟩ := sbL h
  have e0 : ∀ L, L < 200 → (nI n - (nI L >>> ((0 : Int32) &&& 31)) ≤ 0) = (n ≤ L) := fun L hL => by
    rw [shr0 L hL]
    by_cases q : n ≤ L
    · refine propext ⟨fun _ => q, fun _ => ?_⟩
      rw [Int32.le_iff_toInt_le]
      by_cases q2 : n = L
      · rw [q2, Int32.sub_self]
        decide
      · have hlt := (jNg (a := n) (b := L) (by omega) (by omega)).mpr trivial
        rw [Int32.lt_iff_toInt_lt] at hlt
        have e1 : (nI 0).toInt = 0 := rfl
        have e2 : (0 : Int32).toInt = 0 := rfl
        omega
    · refine propext ⟨fun z => ?_, fun z => absurd z q⟩
      rw [jSub (by omega)] at z
      have := (jLe0 (a := n - L) (by omega)).mp z
      omega
  have hL200 : cln σ 16 (arr σ) < 200 := by omega
  by_cases q : n ≤ cln σ 16 (arr σ)
  · refine Or.inl ⟨q, ?_⟩
    unfold fc_J5_ensureCapacityInternal_d00dfZ
    rw [a1, dr_mk a2, Option.bind_some, a3, if_pos ((e0 _ hL200).mpr q)]
  · refine Or.inr ⟨by omega, ?_, ?_⟩
    · unfold fc_J5_ensureCapacityInternal_d00dfZ
      rw [a1, dr_mk a2, Option.bind_some, a3, if_neg (fun z => q ((e0 _ hL200).mp z))]
    · obtain ⟨L, hL⟩ : ∃ L, L = cln σ 16 (arr σ) := ⟨_, rfl⟩
      rw [← hL] at a5 a6 a8 q hL200
      have hL3 : L = 16 ∨ L = 34 ∨ L = 70 := by omega
      have ecap : fc_J5_newCapacity_0f7a4 σ (nI n) = some (nI (2 * L + 2), σ) := by
        unfold fc_J5_newCapacity_0f7a4 fc_J8_newLength_cabcc
        rw [a1, dr_mk a2, Option.bind_some, a3, ← hL, shl0 n (by omega), show (2 : Int32) <<< ((0 : Int32) &&& 31) = nI 2 by decide, jAdd, jSub (show L ≤ n by omega)]
        rw [if_pos (show nI (n - L) < nI (L + 2) by rw [jLt (by omega) (by omega)]; omega), jAdd, if_neg (show ¬ nI (L + (L + 2)) ≤ (0 : Int32) from fun z => by have := (jLe0 (by omega)).mp z; omega), if_neg (show ¬ (2147483639 : Int32) < nI (L + (L + 2)) by rcases hL3 with z | z | z <;> rw [z] <;> decide), Option.bind_some]
        rw [if_neg (show ¬ nI (L + (L + 2)) = (2147483647 : Int32) by rcases hL3 with z | z | z <;> rw [z] <;> decide)]
        show some (nI (L + (L + 2)) >>> (cI σ 11 0 1 &&& 31), σ) = _
        rw [a3, shr0 _ (by omega), show L + (L + 2) = 2 * L + 2 by omega]
      obtain ⟨M, hM⟩ : ∃ M, M = 2 * L + 2 := ⟨_, rfl⟩
      rw [← hM] at ecap
      obtain ⟨σ1, h1'⟩ : ∃ σ1, σ1 = uN σ 16 M 0 := ⟨_, rfl⟩
      obtain ⟨σ2, h2'⟩ : ∃ σ2, σ2 = uBb σ1 (arr σ) 0 (cn σ 16) 0 L := ⟨_, rfl⟩
      obtain ⟨σ3, h3'⟩ : ∃ σ3, σ3 = uR σ2 11 0 0 (some (cn σ 16)) := ⟨_, rfl⟩
      have n16 : cn σ1 16 = cn σ 16 + 1 := by
        rw [h1']
        show (if 16 = 16 then cn σ 16 + 1 else cn σ 16) = _
        rw [if_pos rfl]
      have lo : cln σ1 16 (arr σ) = L := by rw [h1', zL_uN, if_neg (fun z => by omega), ← hL]
      have ln : cln σ1 16 (cn σ 16) = M := by rw [h1', zL_uN, if_pos ⟨rfl, rfl⟩]
      have io : ∀ f, cI σ1 16 (arr σ) f = cI σ 16 (arr σ) f := fun f => by rw [h1', zI_uN, if_neg (fun z => by omega)]
      have ecopy : fc_J7_copyOf_9075b σ (some (arr σ)) (nI M) = some (some (cn σ 16), σ2) := by
        unfold fc_J7_copyOf_9075b
        rw [dr_mk a2, Option.bind_some, ← hL, if_neg (show ¬ nI M = nI L by rw [jEq (by omega) (by omega)]; omega), if_neg (show ¬ ¬ ¬ nI M < 0 from fun z => z (fun y => by rw [n0, jLt (by omega) (by omega)] at y; omega)), jCl (show M < 100000 by omega), if_neg (show ¬ ¬ M ≤ 200 by omega), if_neg (fun z => (lvq_mk a2).mp z), ← h1', dr_mk (show arr σ < cn σ1 16 by omega), Option.bind_some, dr_mk (show cn σ 16 < cn σ1 16 by omega), Option.bind_some, lo, if_neg (show ¬ nI M < nI L by rw [jLt (by omega) (by omega)]; omega)]
        have z0 : ¬ ¬ ¬ (0 : Int32) < 0 := by decide
        rw [if_neg z0, if_neg z0, if_neg (show ¬ ¬ ¬ nI L < 0 from fun z => z (fun y => by rw [n0, jLt (by omega) (by omega)] at y; omega)), jCl (show L < 100000 by omega), show (0 : Int32).toNatClampNeg = 0 from rfl, ln, if_neg (show ¬ ¬ 0 + L ≤ L by omega), if_neg (show ¬ ¬ 0 + L ≤ M by omega), if_neg, ← h2']
        intro z
        refine z (fun f hf => ?_)
        rw [Nat.zero_add, io]
        exact a8 f hf
      have K : KB σ σ3 := by
        rw [h3', h2', h1']
        exact (KB.N.tr KB.B).tr (KB.R (Or.inl rfl))
      have r3 : cR σ3 11 0 0 = some (cn σ 16) := by rw [h3', uR_at, if_pos rfl]
      have ar : arr σ3 = cn σ 16 := by unfold arr; rw [r3]; rfl
      have l3 : cln σ3 16 (cn σ 16) = M := by rw [h3', h2']; exact ln
      have i3 : ∀ f, f < L → cI σ3 16 (cn σ 16) f = cI σ 16 (arr σ) f := fun f hf => by
        rw [h3', h2']
        show (if 16 = 16 ∧ cn σ 16 = cn σ 16 ∧ 0 ≤ f ∧ f < 0 + L then cI σ1 16 (arr σ) (0 + (f - 0)) else cI σ1 16 (cn σ 16) f) = _
        rw [if_pos ⟨rfl, rfl, by omega, by omega⟩, show 0 + (f - 0) = f by omega, io]
      have i3' : ∀ f, ¬ f < L → cI σ3 16 (cn σ 16) f = 0 := fun f hf => by
        rw [h3', h2']
        show (if 16 = 16 ∧ cn σ 16 = cn σ 16 ∧ 0 ≤ f ∧ f < 0 + L then cI σ1 16 (arr σ) (0 + (f - 0)) else cI σ1 16 (cn σ 16) f) = _
        rw [if_neg (fun z => by omega), h1', zI_uN, if_pos ⟨rfl, rfl⟩]
      have i11 : cI σ3 11 = cI σ 11 := by
        rw [h3', h2', h1']
        funext i f
        show (if 11 = 16 ∧ i = cn σ 16 ∧ 0 ≤ f ∧ f < 0 + L then cI (uN σ 16 M 0) 16 (arr σ) (0 + (f - 0)) else cI (uN σ 16 M 0) 11 i f) = _
        rw [if_neg (fun z => absurd z.1 (by decide)), zI_uN, if_neg (fun z => absurd z.1 (by decide))]
      have n3 : cn σ3 16 = cn σ 16 + 1 := by rw [h3', h2']; exact n16
      obtain ⟨⟨⟨c1, c2, c3⟩, -⟩, c4, c5, -⟩ := id h
      refine ⟨σ3, ?_, ⟨⟨⟨?_, by rw [i11]; exact c2, by rw [i11]; exact c3⟩, cn σ 16, r3, by omega, by rw [l3]; omega, fun f hf => ?_⟩, by rw [i11]; exact c4, c5, cn σ 16, r3, by rw [l3]; omega, fun k hk => ?_⟩, ?_, ?_, K⟩
      · unfold fc_J5_ensureCapacityInternal_d00dfS fc_J5_ensureCapacityInternal_d00dfS_38
        rw [a1, dr_mk a2, Option.bind_some, a3, ← hL, if_neg (fun z => q ((e0 L hL200).mp z)), ecap, Option.bind_some]
        show (fc_J7_copyOf_9075b σ (some (arr σ)) (nI M <<< (cI σ 11 0 1 &&& 31))).bind _ = _
        rw [a3, shl0 M (by omega), ecopy, Option.bind_some, h3']
        exact if_neg (fun z => (lvq_mk (show cn σ 16 < cn σ2 16 by rw [h2']; show cn σ 16 < cn σ1 16; omega)).mp z)
      · rw [h3', h2', h1']
        show cln (uN σ 16 M 0) 12 10 = 12
        rw [zL_uN, if_neg (fun z => absurd z.1 (by decide))]
        exact c1
      · rw [l3] at hf
        by_cases z : f < L
        · rw [i3 f z]
          exact a8 f z
        · rw [i3' f z]
          decide
      · rw [i3 k (by omega)]
        exact a7 k hk
      · unfold lev
        rw [r3, a1]
        show (if cln σ3 16 (cn σ 16) ≤ 16 then 0 else if cln σ3 16 (cn σ 16) ≤ 34 then 1 else if cln σ3 16 (cn σ 16) ≤ 70 then 2 else 3) = (if cln σ 16 (arr σ) ≤ 16 then 0 else if cln σ 16 (arr σ) ≤ 34 then 1 else if cln σ 16 (arr σ) ≤ 70 then 2 else 3) + 1
        rw [l3, ← hL, hM]
        rcases hL3 with z | z | z <;> rw [z] <;> rfl
      · rw [ar, l3]
        omega
/-- an addition, out of its body -/
theorem sb_app (h : SBd σ l) (hm : m.length ≤ 6) (hn : l.length + m.length ≤ 142) {Z S : Option cS} {B : cS → Option cS} (hZ : Z = (fc_J5_ensureCapacityInternal_d00dfZ σ (nI (l.length + m.length))).bind B) (hS : S = (fc_J5_ensureCapacityInternal_d00dfS σ (nI (l.length + m.length))).bind B) (hB : ∀ σ1, SBd σ1 l → l.length + m.length ≤ cln σ1 16 (arr σ1) → ∃ σ2, B σ1 = some σ2 ∧ SBd σ2 (l ++ m) ∧ lev σ2 = lev σ1 ∧ KB σ1 σ2) : ∃ σ', exA σ Z S = some σ' ∧ SBd σ' (l ++ m) ∧ KB σ σ' := by
  rcases sb_room h (n := l.length + m.length) (by omega) (by omega) hn with ⟨c1, c2⟩ | ⟨c1, c2, σ1, c3, c4, c5, c6, c7⟩
  · obtain ⟨σ2, b1, b2, b3, b4⟩ := hB σ h c1
    refine ⟨σ2, ?_, b2, b4⟩
    rw [hZ, c2, Option.bind_some, b1]
    exact if_pos b3
  · obtain ⟨σ2, b1, b2, b3, b4⟩ := hB σ1 c4 c6
    refine ⟨σ2, ?_, b2, c7.tr b4⟩
    rw [hZ, c2, hS, c3, Option.bind_some, b1]
    exact if_pos (b3.trans c5)
end X20
