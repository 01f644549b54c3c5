/-! What a command makes is a state; the words shown are words. -/
section L20
variable {w : Wd} {s s' : St}
theorem shF_wset (hw : Wd.ok w) (li : Bool) : ∀ (d x : Nat) (a : Int64), x + d ≤ w.T → wset w.W a → wset w.W (shF w s li x d a) := by
  intro d
  induction d with
  | zero => intro x a _ h; exact h
  | succ d ih =>
    intro x a hx h
    rw [shF_s]
    refine ih (x + 1) _ (by omega) ?_
    split
    · exact wset_or h (wset_bit (hw.2.2.2.2.2.1 x (by omega)).1 hw.1.1)
    · exact h
theorem sShown_wset (hw : Wd.ok w) (s : St) : wset w.W (sShown w s) := by
  unfold sShown
  refine shF_wset hw _ w.T 0 _ (by omega) ?_
  split
  · exact hw.2.2.2.2.2.2.2.2.2.2.1 _
  · exact wset_0 _
theorem sBes_wset (hw : Wd.ok w) {tc : Nat → Int64} (ht : ∀ h, wset w.W (tc h)) (q : Cm) : wset w.W (sBes w tc q) := by
  unfold sBes
  split
  · split
    · split
      · exact hw.2.2.2.2.2.2.2.2.2.2.2 _
      · exact wset_0 _
    · exact wset_0 _
  · split
    · exact ht _
    · exact wset_0 _
theorem sTurn_ok {x k : Nat} {b : Bool} (hs : St.ok w s) (hx : x < w.T) (hk : b = true → k = 98 ∨ (k = 108 ∧ 0 < s.fu x)) (h : sTurn w s x k b = some s') : St.ok w s' := by
  unfold sTurn at h
  split at h
  case isFalse => cases h
  case isTrue hc =>
    cases h
    obtain ⟨h1, h2, h3⟩ := hs
    have e : ∀ y, (sOn s x b).on y = if y = x then b else s.on y := fun _ => rfl
    refine ⟨h1, fun y hy => ?_, fun y hy => ?_⟩
    · obtain ⟨a1, a2, a3, a4, a5⟩ := h2 y hy
      refine ⟨a1, a2, a3, a4, fun ho => ?_⟩
      rw [e] at ho
      by_cases z : y = x
      · rw [if_pos z] at ho
        rw [z]
        rcases hk ho with h | ⟨h, h'⟩
        · exact Or.inl (hc.1.trans h)
        · exact Or.inr ⟨hc.1.trans h, h'⟩
      · rw [if_neg z] at ho
        exact a5 ho
    · obtain ⟨a1, a2, a3⟩ := h3 y hy
      refine ⟨a1, a2, ?_⟩
      rw [e, if_neg (by omega)]
      exact a3
theorem sOne_ok (hw : Wd.ok w) (hs : St.ok w s) {v x : Nat} (hx : x < w.T) (h : sOne w s v x = some s') : St.ok w s' := by
  unfold sOne at h
  split at h
  · exact sTake_ok hs hx h
  · split at h
    · unfold sDrop at h
      split at h
      · cases h
        exact sPut_ok hs hx (Or.inl hs.1) (fun hk => by
          rename_i hc
          have h12 := hs.1
          have hR := hw.1.2.1
          omega)
      · cases h
    · split at h
      · exact sTurn_ok hs hx (fun _ => Or.inl rfl) h
      · split at h
        · exact sTurn_ok hs hx (fun z => by cases z) h
        · split at h
          · split at h
            · cases h
            · rename_i hf
              exact sTurn_ok hs hx (fun _ => Or.inr ⟨rfl, Nat.pos_of_ne_zero hf⟩) h
          · split at h
            · exact sTurn_ok hs hx (fun z => by cases z) h
            · cases h
              exact hs
theorem sStow_ok (hs : St.ok w s) {x b : Nat} (hx : x < w.T) (hb : b < w.T) (h : sStow w s x b = some s') : St.ok w s' := by
  unfold sStow at h
  split at h
  case isFalse => cases h
  case isTrue hc =>
    cases h
    obtain ⟨c1, c2, c3, c4, c5⟩ := hc
    exact sPut_ok hs hx (Or.inr (Or.inr ⟨by omega, by rw [Nat.add_sub_cancel_left]; exact hb, by rw [Nat.add_sub_cancel_left]; exact c3, c2⟩)) (fun hk => absurd hk c2)
theorem sMove_ok (hw : Wd.ok w) (hs : St.ok w s) {d : Nat} (h : sMove w s d = some s') : St.ok w s' := by
  unfold sMove at h
  cases e : sFree w s (6 * s.rm + d) with
  | none => rw [e] at h; cases h
  | some r =>
    rw [e] at h
    cases h
    have hx : w.ex (6 * s.rm + d) = some r := by
      unfold sFree at e
      split at e
      · exact e
      · split at e
        · exact e
        · cases e
    exact ⟨(hw.2.2.2.1 _ _ hx).2, hs.2.1, hs.2.2⟩
theorem sDo_ok (hw : Wd.ok w) (hs : St.ok w s) {q : Cm} (h : sDo w s q = some s') : St.ok w s' := by
  unfold sDo at h
  split at h
  · cases e : q.2.1 with
    | none => rw [e] at h; cases h
    | some d => rw [e] at h; exact sMove_ok hw hs h
  · split at h
    · cases h; exact hs
    · cases e : q.2.1.bind (sThing w) with
      | none => rw [e] at h; cases h
      | some x =>
        have hx : x < w.T := by
          cases e1 : q.2.1 with
          | none => rw [e1] at e; cases e
          | some k => rw [e1] at e; exact (sThing_lt e).1
        rw [e] at h
        replace h : (if sReach s (sLight w s) x = true then (if q.1 = 9 then (q.2.2.bind (sThing w)).bind fun y => if sReach s (sLight w s) y = true then sStow w s x y else none else sOne w s q.1 x) else none) = some s' := h
        split at h
        · split at h
          · cases e2 : q.2.2.bind (sThing w) with
            | none => rw [e2] at h; cases h
            | some y =>
              have hy : y < w.T := by
                cases e1 : q.2.2 with
                | none => rw [e1] at e2; cases e2
                | some k => rw [e1] at e2; exact (sThing_lt e2).1
              rw [e2] at h
              replace h : (if sReach s (sLight w s) y = true then sStow w s x y else none) = some s' := h
              split at h
              · exact sStow_ok hs hx hy h
              · cases h
          · exact sOne_ok hw hs hx h
        · cases h
theorem sPk_ok {t : St} {li : Bool} : ∀ (d x k : Nat) (s : St), x + d ≤ w.T → St.ok w s → St.ok w (sPk w t li d x k s).2 := by
  intro d
  induction d with
  | zero => intro x k s _ h; exact h
  | succ d ih =>
    intro x k s hx h
    unfold sPk
    split
    · split
      · rename_i s' e
        exact ih _ _ _ (by omega) (sTake_ok h (by omega) e)
      · exact ih _ _ _ (by omega) h
    · exact ih _ _ _ (by omega) h
end L20
/-! A further node keeps what is known of the others. -/
section L20b
variable {w : Wd} {t : Tr} {s : St} {sg : Int64} {q : Cm} {p : Sp}
theorem pth_add (ht : Tr.ok w t) : ∀ (f n : Nat), n < t.N → pthF (tAdd t s sg q).par f n = pthF t.par f n := by
  intro f
  induction f with
  | zero => intro n _; rfl
  | succ f ih =>
    intro n hn
    show (n :: if n = 0 then [] else pthF (tAdd t s sg q).par f ((tAdd t s sg q).par n)) = (n :: if n = 0 then [] else pthF t.par f (t.par n))
    by_cases z : n = 0
    · rw [if_pos z, if_pos z]
    · have := ht.2.1 n (by omega) hn
      rw [if_neg z, if_neg z, tAdd_par, if_neg (by omega), ih _ (by omega)]
theorem path_add (ht : Tr.ok w t) {n : Nat} (hn : n < t.N) : sPath (tAdd t s sg q) n = sPath t n := pth_add ht _ n hn
theorem onP_add (ht : Tr.ok w t) {n : Nat} (hn : n < t.N) (m : Nat) : sOnP (tAdd t s sg q) m n = sOnP t m n := by
  unfold sOnP
  rw [path_add ht hn]
theorem foldl_cg {α β : Type} {f f' : α → β → α} : ∀ (l : List β) (a : α), (∀ a, ∀ m ∈ l, f a m = f' a m) → l.foldl f a = l.foldl f' a := by
  intro l
  induction l with
  | nil => intro a _; rfl
  | cons x l ih =>
    intro a h
    rw [List.foldl_cons, List.foldl_cons, h a x List.mem_cons_self]
    exact ih _ (fun a m hm => h a m (List.mem_cons_of_mem _ hm))
theorem kn_add (ht : Tr.ok w t) {n : Nat} (hn : n < t.N) : sKn (tAdd t s sg q) n = sKn t n := by
  unfold sKn
  rw [path_add ht hn]
  refine foldl_cg _ _ (fun a m hm => ?_)
  have : m < t.N := by
    rcases mem_dep ht n hn hm with h | h
    · omega
    · exact h.1
  rw [tAdd_sh, if_neg (by omega)]
theorem rpl_add (ht : Tr.ok w t) {n : Nat} (h0 : 0 < n) (hn : n < t.N) (h : rpl w t n) : rpl w (tAdd t s sg q) n := by
  have hp := ht.2.1 n h0 hn
  unfold rpl at h ⊢
  rw [tAdd_cm, tAdd_par, tAdd_st, tAdd_st, if_neg (by omega), if_neg (by omega), if_neg (by omega), if_neg (by omega), kn_add ht (by omega)]
  obtain ⟨h1, h2, h3⟩ := h
  refine ⟨h1, h2, fun e => ?_⟩
  obtain ⟨m, a, b, c, d⟩ := h3 e
  refine ⟨m, a, by rw [tAdd_N]; omega, ?_, ?_⟩
  · rw [tAdd_st, if_neg (by omega)]; exact c
  · rw [tAdd_st, if_neg (by omega)]; exact d
theorem Sp.ok.add (ht : Tr.ok w t) (hp : Sp.ok w t p) (hq : q.1 ≠ 12) : Sp.ok w (tAdd t s sg q) p := by
  obtain ⟨⟨s0, s1⟩, s2, s3, s4, s5, s6, s7⟩ := hp
  refine ⟨⟨s0, by rw [tAdd_N]; omega⟩, s2, s3, fun i hi => ?_, fun i j hi hj he => ?_, fun n h0 hn h12 => ?_, s7⟩
  · obtain ⟨x1, x2, x3⟩ := s4 i hi
    exact ⟨x1, x2, by rw [tAdd_N]; omega⟩
  · rw [onP_add ht (s4 j hj).2.2, onP_add ht (s4 i (by omega)).2.2]
    exact s5 i j hi hj he
  · rw [tAdd_N] at hn
    rw [tAdd_cm] at h12 ⊢
    by_cases z : n = t.N
    · rw [if_pos z] at h12
      exact absurd h12 hq
    · rw [if_neg z] at h12 ⊢
      exact s6 n h0 (by omega) h12
/-- a command's result at the node where play is -/
def rplQ (w : Wd) (t : Tr) (s : St) (q : Cm) : Prop :=
  (q.1 < 12 → sKnw (sKn t t.now) q = true ∧ sDo w (t.st t.now) q = some s) ∧ (q.1 = 12 ∨ q.1 = 13 → s = t.st t.now) ∧
  (q.1 = 14 → ∃ m, q.2.1 = some m ∧ m < t.N ∧ 0 < (sPk w (t.st m) (sLight w (t.st t.now)) w.T 0 0 (t.st t.now)).1 ∧ s = (sPk w (t.st m) (sLight w (t.st t.now)) w.T 0 0 (t.st t.now)).2)
theorem rplQ_ok {g : Gm} (h : Gm.ok g) (h0 : 0 < g.t.N) (hq : cmQ g.w q) (hr : rplQ g.w g.t s q) : St.ok g.w s := by
  have hn := h.2.2.1.1.2.1 h0
  have hst := (h.2.2.1.2.2.1 _ hn).1
  obtain ⟨r1, r2, r3⟩ := hr
  rcases hq with hq | ⟨v, k, h1, h2, h3, hq⟩
  · exact sDo_ok h.1 hst (r1 (tyQ_lt hq)).2
  · have e : q.1 = v := by rw [hq]
    by_cases z : v = 14
    · obtain ⟨m, a, b, c, d⟩ := r3 (e.trans z)
      rw [d]
      exact sPk_ok _ _ _ _ (by omega) hst
    · rw [r2 (by omega)]
      exact hst
theorem Gm.ok.add {g : Gm} {p' : Sp} (h : Gm.ok g) (h0 : 0 < g.t.N) (hN : g.t.N < 80) (hq : cmQ g.w q) (hb : 12 ≤ q.1 → q.1 ≤ 13 → ∀ b, q.2.1 = some b → b < p'.H) (hH : g.p.H ≤ p'.H) (hr : rplQ g.w g.t s q) (hsg : wset g.w.W sg) (hp' : Sp.ok g.w (tAdd g.t (sBurn g.w s) sg q) p') : Gm.ok (g.w, g.l, tAdd g.t (sBurn g.w s) sg q, p') := by
  have hs := rplQ_ok h h0 hq hr
  obtain ⟨k1, k2, k3, k4, k5, k6⟩ := h
  have hn := k3.1.2.1 h0
  refine ⟨k1, k2, tAdd_ok k3 hN (sBurn_ok hs) hsg, hp', fun n hn0 hnN => ?_, fun _ => ?_⟩
  · have hnN : n < g.t.N + 1 := hnN
    show cmQ g.w ((tAdd g.t (sBurn g.w s) sg q).cm n) ∧ (12 ≤ ((tAdd g.t (sBurn g.w s) sg q).cm n).1 → ((tAdd g.t (sBurn g.w s) sg q).cm n).1 ≤ 13 → ∀ b, ((tAdd g.t (sBurn g.w s) sg q).cm n).2.1 = some b → b < p'.H) ∧ rpl g.w (tAdd g.t (sBurn g.w s) sg q) n
    by_cases z : n = g.t.N
    · unfold rpl
      rw [tAdd_cm, if_pos z, tAdd_par, if_pos z, tAdd_st, tAdd_st, if_pos z, if_neg (by omega), kn_add k3 hn]
      refine ⟨hq, hb, fun e => ?_, fun e => ?_, fun e => ?_⟩
      · obtain ⟨a, b⟩ := hr.1 e
        exact ⟨a, s, b, rfl⟩
      · rw [hr.2.1 e]
      · obtain ⟨m, a, b, c, d⟩ := hr.2.2 e
        refine ⟨m, a, by rw [tAdd_N]; omega, ?_, ?_⟩
        · rw [tAdd_st, if_neg (by omega)]; exact c
        · rw [tAdd_st, if_neg (by omega), ← d]
    · obtain ⟨x1, x2, x3⟩ := k5 n hn0 (by omega)
      rw [tAdd_cm, if_neg z]
      exact ⟨x1, fun h1 h2 b hb => Nat.lt_of_lt_of_le (x2 h1 h2 b hb) hH, rpl_add k3 hn0 (by omega) x3⟩
  · show (tAdd g.t (sBurn g.w s) sg q).cm 0 = (0, some ((tAdd g.t (sBurn g.w s) sg q).st 0).rm, none) ∧ ((tAdd g.t (sBurn g.w s) sg q).st 0).rm < g.w.R ∧ (tAdd g.t (sBurn g.w s) sg q).st 0 = sStart g.w ((tAdd g.t (sBurn g.w s) sg q).st 0).rm
    rw [tAdd_cm, tAdd_st, if_neg (by omega), if_neg (by omega)]
    exact k6 h0
end L20b
