/-! A command's text, and the child by a command: both sides. -/
def jn : List (List Nat) → List Nat
  | [] => []
  | [p] => p
  | p :: q :: r => p ++ 32 :: jn (q :: r)
theorem jn_c {p : List Nat} {r : List (List Nat)} (h : r ≠ []) : jn (p :: r) = p ++ 32 :: jn r := by
  cases r with
  | nil => exact absurd rfl h
  | cons q r => rfl
theorem sSeg_app {l : List Nat} {b k : Nat} (h : b ≤ k) (hk : k ≤ l.length) : sSeg l b (k - b) ++ sSeg l k (l.length - k) = sSeg l b (l.length - b) := by
  have h1 : sSeg l k (l.length - k) = l.drop k := by
    unfold sSeg
    rw [List.take_of_length_le (by rw [List.length_drop]; omega)]
  have h2 : sSeg l b (l.length - b) = l.drop b := by
    unfold sSeg
    rw [List.take_of_length_le (by rw [List.length_drop]; omega)]
  rw [h1, h2]
  unfold sSeg
  have : l.drop k = (l.drop b).drop (k - b) := by rw [List.drop_drop]; congr 1; omega
  rw [this, List.take_append_drop]
def segs (l : List Nat) (c : List (Nat × Nat)) : List (List Nat) := c.map fun p => sSeg l p.1 (p.2 - p.1)
theorem jn_cut {l : List Nat} : ∀ (d b k : Nat), k + d = l.length → b ≤ k → jn (segs l (cutF l d b k)) = sSeg l b (l.length - b) := by
  intro d
  induction d with
  | zero =>
    intro b k hk hb
    show sSeg l b (k - b) = _
    congr 1
    omega
  | succ d ih =>
    intro b k hk hb
    unfold cutF
    by_cases q : l.getD k 0 = 32
    · rw [if_pos q]
      have hne : segs l (cutF l d (k + 1) (k + 1)) ≠ [] := fun h => cut_ne l d _ _ (List.map_eq_nil_iff.mp h)
      show jn (sSeg l b (k - b) :: segs l (cutF l d (k + 1) (k + 1))) = _
      rw [jn_c hne, ih (k + 1) (k + 1) (by omega) (Nat.le_refl _), ← sSeg_app hb (show k ≤ l.length by omega), show l.length - k = (l.length - (k + 1)) + 1 by omega, sSeg_s (show k < l.length by omega), q]
    · rw [if_neg q]
      exact ih b (k + 1) (by omega) (by omega)
theorem jn_all (l : List Nat) : jn (segs l (sCuts l)) = l := by
  have h := jn_cut (l := l) l.length 0 0 (by omega) (Nat.le_refl _)
  rw [Nat.sub_zero, sSeg_all] at h
  exact h
theorem segs_e {l : List Nat} : segs l (sCuts l) = (List.range (sCuts l).length).map (sPart l) := by
  unfold segs
  refine List.ext_getElem (by simp) fun k h1 h2 => ?_
  have hk : k < (sCuts l).length := by simpa using h1
  have e := sPt_e (l := l) hk
  rw [List.getElem?_eq_getElem hk] at e
  have e := Option.some.inj e
  rw [List.getElem_map, List.getElem_map, List.getElem_range, e]
  rfl
/-- a command's text -/
def sText (w : Wd) (q : Cm) : List Nat :=
  if q.1 = 1 then tN 1 ++ [32, sDsg (q.2.1.getD 0)]
  else if q.1 = 9 then tN 9 ++ 32 :: (w.word (q.2.1.getD 0) ++ 32 :: (tN 15 ++ 32 :: w.word (q.2.2.getD 0)))
  else if q.1 = 10 then tN 8 else if q.1 = 11 then tN 10
  else tN q.1 ++ 32 :: w.word (q.2.1.getD 0)
/-- a command that can be typed, of words that are -/
def tyQ (w : Wd) (q : Cm) : Prop :=
  (∃ d, d < 6 ∧ q = (1, some d, none)) ∨ q = (10, none, none) ∨ q = (11, none, none) ∨ (∃ v k, 2 ≤ v ∧ v ≤ 8 ∧ k < w.W ∧ q = (v, some k, none)) ∨ ∃ a b, a < w.W ∧ b < w.W ∧ q = (9, some a, some b)
theorem sp_inj : ∀ (p p' r r' : List Nat), (∀ c ∈ p, c ≠ 32) → (∀ c ∈ p', c ≠ 32) → p ++ 32 :: r = p' ++ 32 :: r' → p = p' ∧ r = r' := by
  intro p
  induction p with
  | nil =>
    intro p' r r' _ hp' h
    cases p' with
    | nil => exact ⟨rfl, (List.cons.inj h).2⟩
    | cons c p' => exact absurd (List.cons.inj h).1.symm (hp' c List.mem_cons_self)
  | cons c p ih =>
    intro p' r r' hp hp' h
    cases p' with
    | nil => exact absurd (List.cons.inj h).1 (hp c List.mem_cons_self)
    | cons c' p' =>
      obtain ⟨h1, h2⟩ := List.cons.inj h
      obtain ⟨h3, h4⟩ := ih p' r r' (fun c hc => hp c (List.mem_cons_of_mem _ hc)) (fun c hc => hp' c (List.mem_cons_of_mem _ hc)) h2
      exact ⟨by rw [h1, h3], h4⟩
theorem tN_sp : ∀ i, i < 16 → ∀ c ∈ tN i, c ≠ 32 := by decide +kernel
theorem tN_sp' : ∀ i, i < 11 → ∀ c ∈ tN i, c ≠ 32 := fun i hi => tN_sp i (by omega)
theorem tN_inj : ∀ i, i < 11 → ∀ j, j < 11 → tN i = tN j → i = j := by decide +kernel
theorem sDsg_inj : ∀ i, i < 6 → ∀ j, j < 6 → sDsg i = sDsg j → i = j := by decide
theorem sDsg_sp : ∀ i, i < 6 → sDsg i ≠ 32 ∧ 97 ≤ sDsg i ∧ sDsg i ≤ 122 := by decide
theorem word_sp {w : Wd} (hw : Wd.ok w) {x : Nat} (hx : x < w.W) : ∀ c ∈ w.word x, c ≠ 32 := fun c hc => by have := (word_lb hw hx).1.2 c hc; omega
/-- text is verb and rest, or a verb alone -/
theorem sText_inj {w : Wd} (hw : Wd.ok w) {q q' : Cm} (h : tyQ w q) (h' : tyQ w q') (e : sText w q = sText w q') : q = q' := by
  have no : ∀ (p p' r : List Nat), (∀ c ∈ p, c ≠ 32) → p ≠ p' ++ 32 :: r := fun p p' r hp z => hp 32 (by rw [z]; simp) rfl
  have c2 : ∀ v k, 2 ≤ v → v ≤ 8 → sText w (v, some k, none) = tN v ++ 32 :: w.word k := by
    intro v k h1 h2
    unfold sText
    rw [if_neg (show ¬ v = 1 by omega), if_neg (show ¬ v = 9 by omega), if_neg (show ¬ v = 10 by omega), if_neg (show ¬ v = 11 by omega)]
    rfl
  have c1 : ∀ d, sText w (1, some d, none) = tN 1 ++ 32 :: [sDsg d] := fun d => rfl
  have c9 : ∀ a b, sText w (9, some a, some b) = tN 9 ++ 32 :: (w.word a ++ 32 :: (tN 15 ++ 32 :: w.word b)) := fun a b => rfl
  have c10 : sText w (10, none, none) = tN 8 := rfl
  have c11 : sText w (11, none, none) = tN 10 := rfl
  rcases h with ⟨d, hd, rfl⟩ | rfl | rfl | ⟨v, k, h1, h2, hk, rfl⟩ | ⟨a, b, ha, hb, rfl⟩ <;> rcases h' with ⟨d', hd', rfl⟩ | rfl | rfl | ⟨v', k', h1', h2', hk', rfl⟩ | ⟨a', b', ha', hb', rfl⟩
  · rw [c1, c1] at e
    obtain ⟨-, e2⟩ := sp_inj _ _ _ _ (tN_sp' 1 (by omega)) (tN_sp' 1 (by omega)) e
    rw [sDsg_inj d hd d' hd' (List.cons.inj e2).1]
  · rw [c1, c10] at e
    exact absurd e.symm (no _ _ _ (tN_sp' 8 (by omega)))
  · rw [c1, c11] at e
    exact absurd e.symm (no _ _ _ (tN_sp' 10 (by omega)))
  · rw [c1, c2 v' k' h1' h2'] at e
    obtain ⟨e1, -⟩ := sp_inj _ _ _ _ (tN_sp' 1 (by omega)) (tN_sp' v' (by omega)) e
    have := tN_inj 1 (by omega) v' (by omega) e1
    omega
  · rw [c1, c9] at e
    obtain ⟨e1, -⟩ := sp_inj _ _ _ _ (tN_sp' 1 (by omega)) (tN_sp' 9 (by omega)) e
    have := tN_inj 1 (by omega) 9 (by omega) e1
    omega
  · rw [c10, c1] at e
    exact absurd e (no _ _ _ (tN_sp' 8 (by omega)))
  · rfl
  · rw [c10, c11] at e
    have := tN_inj 8 (by omega) 10 (by omega) e
    omega
  · rw [c10, c2 v' k' h1' h2'] at e
    exact absurd e (no _ _ _ (tN_sp' 8 (by omega)))
  · rw [c10, c9] at e
    exact absurd e (no _ _ _ (tN_sp' 8 (by omega)))
  · rw [c11, c1] at e
    exact absurd e (no _ _ _ (tN_sp' 10 (by omega)))
  · rw [c10, c11] at e
    have := tN_inj 10 (by omega) 8 (by omega) e
    omega
  · rfl
  · rw [c11, c2 v' k' h1' h2'] at e
    exact absurd e (no _ _ _ (tN_sp' 10 (by omega)))
  · rw [c11, c9] at e
    exact absurd e (no _ _ _ (tN_sp' 10 (by omega)))
  · rw [c2 v k h1 h2, c1] at e
    obtain ⟨e1, -⟩ := sp_inj _ _ _ _ (tN_sp' v (by omega)) (tN_sp' 1 (by omega)) e
    have := tN_inj v (by omega) 1 (by omega) e1
    omega
  · rw [c2 v k h1 h2, c10] at e
    exact absurd e.symm (no _ _ _ (tN_sp' 8 (by omega)))
  · rw [c2 v k h1 h2, c11] at e
    exact absurd e.symm (no _ _ _ (tN_sp' 10 (by omega)))
  · rw [c2 v k h1 h2, c2 v' k' h1' h2'] at e
    obtain ⟨e1, e2⟩ := sp_inj _ _ _ _ (tN_sp' v (by omega)) (tN_sp' v' (by omega)) e
    rw [tN_inj v (by omega) v' (by omega) e1, hw.2.2.1 k k' hk hk' e2]
  · rw [c2 v k h1 h2, c9] at e
    obtain ⟨e1, -⟩ := sp_inj _ _ _ _ (tN_sp' v (by omega)) (tN_sp' 9 (by omega)) e
    have := tN_inj v (by omega) 9 (by omega) e1
    omega
  · rw [c9, c1] at e
    obtain ⟨e1, -⟩ := sp_inj _ _ _ _ (tN_sp' 9 (by omega)) (tN_sp' 1 (by omega)) e
    have := tN_inj 9 (by omega) 1 (by omega) e1
    omega
  · rw [c9, c10] at e
    exact absurd e.symm (no _ _ _ (tN_sp' 8 (by omega)))
  · rw [c9, c11] at e
    exact absurd e.symm (no _ _ _ (tN_sp' 10 (by omega)))
  · rw [c9, c2 v' k' h1' h2'] at e
    obtain ⟨e1, -⟩ := sp_inj _ _ _ _ (tN_sp' 9 (by omega)) (tN_sp' v' (by omega)) e
    have := tN_inj 9 (by omega) v' (by omega) e1
    omega
  · rw [c9, c9] at e
    obtain ⟨-, e2⟩ := sp_inj _ _ _ _ (tN_sp' 9 (by omega)) (tN_sp' 9 (by omega)) e
    obtain ⟨e3, e4⟩ := sp_inj _ _ _ _ (word_sp hw ha) (word_sp hw ha') e2
    obtain ⟨-, e5⟩ := sp_inj _ _ _ _ (tN_sp 15 (by omega)) (tN_sp 15 (by omega)) e4
    rw [hw.2.2.1 a a' ha ha' e3, hw.2.2.1 b b' hb hb' e5]
/-- what is typed is the text of the command that it is understood as, where its words are -/
theorem sText_of {w : Wd} (hw : Wd.ok w) {l : List Nat} {q : Cm} (h : sUnd w l = some q) (h1 : (2 ≤ q.1 ∧ q.1 ≤ 9) → q.2.1 ≠ none) (h2 : q.1 = 9 → q.2.2 ≠ none) : sText w q = l ∧ tyQ w q := by
  have hj := jn_all l
  rw [segs_e] at hj
  unfold sUnd at h
  by_cases v0 : sVerb l = 0
  · rw [if_pos v0] at h; cases h
  rw [if_neg v0] at h
  have h := Option.some.inj h
  unfold sVerb at h v0
  by_cases ok : cutOk (sCuts l) = false
  · rw [if_pos ok] at v0; exact absurd rfl v0
  rw [if_neg ok] at h v0
  by_cases q1 : (sCuts l).length = 1
  · rw [if_pos q1] at h v0
    rw [q1] at hj
    have hj : sPart l 0 = l := hj
    by_cases a1 : sPart l 0 = tN 8
    · rw [if_pos a1] at h
      subst h
      exact ⟨a1.symm.trans hj, Or.inr (Or.inl rfl)⟩
    rw [if_neg a1] at h v0
    by_cases a2 : sPart l 0 = tN 10
    · rw [if_pos a2] at h
      subst h
      exact ⟨a2.symm.trans hj, Or.inr (Or.inr (Or.inl rfl))⟩
    rw [if_neg a2] at v0
    exact absurd rfl v0
  rw [if_neg q1] at h v0
  by_cases q4 : (sCuts l).length = 4
  · rw [if_pos q4] at h v0
    rw [q4] at hj
    have hj : sPart l 0 ++ 32 :: (sPart l 1 ++ 32 :: (sPart l 2 ++ 32 :: sPart l 3)) = l := hj
    by_cases a1 : sPart l 0 = tN 9
    · rw [if_pos a1] at h v0
      by_cases a2 : sPart l 2 = tN 15
      · rw [if_pos a2] at h
        subst h
        have e : sCmd w l 9 = (9, sWord w (sPart l 1), sWord w (sPart l 3)) := rfl
        rw [e] at h1 h2 ⊢
        obtain ⟨a, ha⟩ := Option.ne_none_iff_exists'.mp (h1 ⟨by show 2 ≤ 9; omega, by show 9 ≤ 9; omega⟩)
        obtain ⟨b, hb⟩ := Option.ne_none_iff_exists'.mp (h2 rfl)
        have ha : sWord w (sPart l 1) = some a := ha
        have hb : sWord w (sPart l 3) = some b := hb
        obtain ⟨g1, g2⟩ := sWord_lt ha
        obtain ⟨g3, g4⟩ := sWord_lt hb
        rw [ha, hb]
        refine ⟨?_, Or.inr (Or.inr (Or.inr (Or.inr ⟨a, b, g1, g3, rfl⟩)))⟩
        show tN 9 ++ 32 :: (w.word a ++ 32 :: (tN 15 ++ 32 :: w.word b)) = l
        rw [g2, g4, ← a1, ← a2]
        exact hj
      · rw [if_neg a2] at v0; exact absurd rfl v0
    · rw [if_neg a1] at v0; exact absurd rfl v0
  rw [if_neg q4] at h v0
  by_cases q2 : (sCuts l).length = 2
  · rw [if_pos q2] at h v0
    rw [q2] at hj
    have hj : sPart l 0 ++ 32 :: sPart l 1 = l := hj
    have go : ∀ v, 2 ≤ v → v ≤ 8 → sPart l 0 = tN v → sCmd w l v = q → sText w q = l ∧ tyQ w q := by
      intro v g1 g2 hv hq
      have e : sCmd w l v = (v, sWord w (sPart l 1), none) := by
        unfold sCmd
        rw [if_neg (by omega), if_neg (by omega), if_neg (by omega)]
      rw [e] at hq
      subst hq
      obtain ⟨a, ha⟩ := Option.ne_none_iff_exists'.mp (h1 ⟨g1, by show v ≤ 9; omega⟩)
      have ha : sWord w (sPart l 1) = some a := ha
      obtain ⟨g3, g4⟩ := sWord_lt ha
      rw [ha]
      refine ⟨?_, Or.inr (Or.inr (Or.inr (Or.inl ⟨v, a, g1, g2, g3, rfl⟩)))⟩
      unfold sText
      rw [if_neg (show ¬ v = 1 by omega), if_neg (show ¬ v = 9 by omega), if_neg (show ¬ v = 10 by omega), if_neg (show ¬ v = 11 by omega)]
      show tN v ++ 32 :: w.word a = l
      rw [g4, ← hv]
      exact hj
    by_cases a1 : sPart l 0 = tN 1
    · rw [if_pos a1] at h v0
      by_cases a2 : sOnly l = none
      · rw [if_pos a2] at v0; exact absurd rfl v0
      · rw [if_neg a2] at h
        obtain ⟨d, hd⟩ := Option.ne_none_iff_exists'.mp a2
        subst h
        have e : sCmd w l 1 = (1, sOnly l, none) := rfl
        rw [e, hd]
        have hd0 := hd
        unfold sOnly at hd
        by_cases z : (sPt l 1).2 - (sPt l 1).1 = 1
        · rw [if_pos z] at hd
          obtain ⟨k1, k2⟩ := sDir_lt hd
          refine ⟨?_, Or.inl ⟨d, k1, rfl⟩⟩
          obtain ⟨p1, p2⟩ := sPt_in (l := l) (j := 1) (by omega)
          have e2 : sPart l 1 = [sDsg d] := by
            unfold sPart
            rw [z, sSeg_s (by omega), k2]
            rfl
          show tN 1 ++ 32 :: [sDsg d] = l
          rw [← e2, ← a1]
          exact hj
        · rw [if_neg z] at hd; cases hd
    rw [if_neg a1] at h v0
    by_cases a2 : sPart l 0 = tN 2
    · rw [if_pos a2] at h; exact go 2 (by omega) (by omega) a2 h
    rw [if_neg a2] at h v0
    by_cases a3 : sPart l 0 = tN 3
    · rw [if_pos a3] at h; exact go 3 (by omega) (by omega) a3 h
    rw [if_neg a3] at h v0
    by_cases a4 : sPart l 0 = tN 4
    · rw [if_pos a4] at h; exact go 4 (by omega) (by omega) a4 h
    rw [if_neg a4] at h v0
    by_cases a5 : sPart l 0 = tN 5
    · rw [if_pos a5] at h; exact go 5 (by omega) (by omega) a5 h
    rw [if_neg a5] at h v0
    by_cases a6 : sPart l 0 = tN 6
    · rw [if_pos a6] at h; exact go 6 (by omega) (by omega) a6 h
    rw [if_neg a6] at h v0
    by_cases a7 : sPart l 0 = tN 7
    · rw [if_pos a7] at h; exact go 7 (by omega) (by omega) a7 h
    rw [if_neg a7] at h v0
    by_cases a8 : sPart l 0 = tN 8
    · rw [if_pos a8] at h; exact go 8 (by omega) (by omega) a8 h
    rw [if_neg a8] at v0
    exact absurd rfl v0
  rw [if_neg q2] at v0
  exact absurd rfl v0
