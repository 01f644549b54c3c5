/-! The plain calls: clear, coins, sales, node, nodes, at, isBright, weight, known. -/
section B19
variable {g : Gm} {σ : cS} {τ : mS}
theorem Agr.v {ex : List Nat} {v : Int32} : Agr ex (.inr v) v (nI 0) := ⟨rfl, rfl⟩
theorem Agr.x {ex : List Nat} {c j : Nat} {v : Int32} (h : ex[j]? = some c) : Agr ex (.inl c) v (nI (j + 1)) := ⟨j, h, rfl⟩
/-- a throw on both sides, nothing else changed -/
theorem Alk.x {ex : List Nat} {c j : Nat} {v : Int32} {f : Option ((Nat ⊕ Int32) × cS)} {m : Option (Int32 × mS)} (hR : Rel g σ τ) (hf : f = some (.inl c, σ)) (hm : m = some (v, mI τ 0 (nI (j + 1)))) (h : ex[j]? = some c) : Alk ex g f m :=
  ⟨g, .inl c, σ, v, _, hf, hm, by rw [mI_at]; exact Agr.x h, hR.1, hR.2.1, hR.2.2.th _⟩
/-- an answer, nothing changed but the reference's scratch fields -/
theorem Alk.v {ex : List Nat} {v : Int32} {f : Option ((Nat ⊕ Int32) × cS)} {m : Option (Int32 × mS)} {ks : List Nat} {τ' : mS} (hR : Rel g σ τ) (hf : f = some (.inr v, σ)) (hm : m = some (v, τ')) (h0 : τ'.1 0 = nI 0) (hr : mFr ks τ τ') (hk : ∀ k ∈ mRk, k ∉ ks) : Alk ex g f m :=
  ⟨g, .inr v, σ, v, τ', hf, hm, by rw [h0]; exact Agr.v, hR.1, hR.2.1, hR.2.2.fr hr hk⟩
theorem fm_isNotBegun_s {w : Wd} {t : Tr} (hM : MTr τ w t) : fm_isNotBegun τ = some (bI (decide (t.N = 0)), mI τ 0 (nI (if t.N = 0 then 1 else 0))) := by
  unfold fm_isNotBegun fm_isNotBegun_13
  rw [hM.1.2.2]
  by_cases z : t.N = 0
  · rw [if_pos (show bI (decide (0 < t.N)) = 0 by rw [decide_eq_false (by omega)]; rfl), if_pos z, decide_eq_true z, show (1 : Int32) = nI 1 from rfl, fm_isWrong_s τ (by omega), Option.bind_some]
    exact if_pos (show bI true &&& nI 1 = bI true by decide)
  · rw [if_neg (show ¬ bI (decide (0 < t.N)) = 0 by rw [decide_eq_true (by omega)]; decide), if_neg z, decide_eq_false z, show (0 : Int32) = nI 0 from rfl, fm_isWrong_s τ (by omega), Option.bind_some]
    exact if_pos (show bI false &&& 1 = bI false by decide)
/-- a call that wants play begun -/
theorem Alk.begun {ex : List Nat} {f : Option ((Nat ⊕ Int32) × cS)} {m : Option (Int32 × mS)} {F : Unit → cS → Option ((Nat ⊕ Int32) × cS)} {G : Int32 × mS → Option (Int32 × mS)} {v : Int32} (hR : Rel g σ τ) (h2 : ex[0]? = some 2) (hf : f = xb (fc_X11_needPlay σ) F) (hm : m = (fm_isNotBegun τ).bind G) (hz : ∀ τ', G (nI 1, τ') = some (v, τ')) (h : 0 < g.t.N → Alk ex g (F () σ) (G (nI 0, mI τ 0 (nI 0)))) : Alk ex g f m := by
  rw [hf, hm, fc_needPlay_s hR.2.1.2.2.1 hR.1.2.2.1.1.1, fm_isNotBegun_s hR.2.2.2.2.1, Option.bind_some]
  by_cases z : g.t.N = 0
  · rw [if_pos z, if_pos z, decide_eq_true z]
    exact Alk.x (j := 0) hR rfl (hz _) h2
  · rw [if_neg z, if_neg z, decide_eq_false z]
    exact h (by omega)
theorem fc_stateHere_s {w : Wd} {t : Tr} (ht : Tr.ok w t) (hC : CTr σ t) : fc_X11_stateHere σ = xb (fc_X11_needPlay σ) fun _ u => some (.inr (some (t.now + 1)), u) := by
  unfold fc_X11_stateHere
  rw [fc_needPlay_s hC ht.1.1]
  by_cases z : t.N = 0
  · rw [if_pos z]; rfl
  · rw [if_neg z]
    show ((fc_X8_current σ).bind fun r_2 => (dr r_2.2 7 r_2.1).bind fun i_3 => some ((Sum.inr (cR r_2.2 7 i_3 3) : Nat ⊕ Option Nat), r_2.2)) = some (Sum.inr (some (t.now + 1)), σ)
    have hn := ht.1.2.1 (by omega)
    obtain ⟨-, -, r2, -⟩ := hC.2.1 _ hn
    rw [fc_current_s ht hC (by omega), Option.bind_some, hC.dn hn, Option.bind_some, r2]
theorem xb_xb {α β γ : Type} (x : Option ((Nat ⊕ α) × cS)) (y : β) (f : β → cS → Option ((Nat ⊕ γ) × cS)) : xb (xb x fun _ u => some (.inr y, u)) f = xb x fun _ u => f y u := by
  rcases x with _ | ⟨(k | v), u⟩ <;> rfl
theorem fm_known_many {w : Wd} {t : Tr} (ht : Tr.ok w t) (hM : MTr τ w t) (h0 : 0 < t.N) : fm_knownMany τ = some (nI (sBits (sKn t t.now)), τ) := by
  unfold fm_knownMany
  rw [hM.1.2.1, fm_knownAt_s ht hM (ht.1.2.1 h0), Option.bind_some, fm_bits_s, Option.bind_some]
theorem sKn_wset {w : Wd} {t : Tr} (ht : Tr.ok w t) {n : Nat} (hn : n < t.N) : wset w.W (sKn t n) := by
  have gen : ∀ (l : List Nat) (a : Int64), (∀ m ∈ l, wset w.W (t.sh m)) → wset w.W a → wset w.W (l.foldl (fun a m => a ||| t.sh m) a) := by
    intro l
    induction l with
    | nil => intro a _ h; exact h
    | cons x l ih =>
      intro a h1 h2
      exact ih _ (fun m hm => h1 m (List.mem_cons_of_mem _ hm)) (wset_or h2 (h1 x List.mem_cons_self))
  refine gen _ _ (fun m hm => ?_) (wset_0 _)
  rcases mem_dep ht n hn hm with h | h
  · rw [h]; exact (ht.2.2.1 n hn).2.1
  · exact (ht.2.2.1 m h.1).2.1
theorem fc_wordsKnown_s {w : Wd} {t : Tr} (hw : Wd.ok w) (ht : Tr.ok w t) (hC : CTr σ t) (h0 : 0 < t.N) : fc_X11_wordsKnown σ = some (nI (sBits (sKn t t.now)), σ) := by
  have hn := ht.1.2.1 h0
  unfold fc_X11_wordsKnown
  rw [fc_current_s ht hC h0, Option.bind_some, hC.dn hn, Option.bind_some, fc_wordsOfPath_s ht hC hn, Option.bind_some, fc_bitCount_s (wset_le (sKn_wset ht hn) hw.1.1), Option.bind_some]
theorem meth_clear (hR : Rel g σ τ) : ∃ g' σ' τ' v, fc_X11_clear σ = some (v, σ') ∧ fm_clear τ = some (v, τ') ∧ τ'.1 0 = nI 0 ∧ Rel g' σ' τ' := by
  obtain ⟨⟨k1, k2, k3⟩, ⟨c1, c2, c3⟩, ⟨m1, m2, m3⟩⟩ := hR
  refine ⟨(g.w, [], g.t, g.p), uI σ 1 0 3 0, mI (mI τ 0 (nI 0)) 2 (nI 0), nI g.l.length, by unfold fc_X11_clear; rw [c2.1], ?_, ?_, ?_, ?_, ?_⟩
  · unfold fm_clear
    have e : (mI τ 0 0).1 2 = nI g.l.length := by rw [mI_ne _ _ (by decide)]; exact m2.1
    rw [e]
    rfl
  · rw [mI_ne _ _ (by decide), mI_at]
  · exact ⟨k1, ⟨Nat.zero_le _, fun c h => by cases h⟩, k3⟩
  · have hf : cFr [(1, 0)] σ (uI σ 1 0 3 0) := cFr.I (List.mem_singleton.mpr rfl)
    obtain ⟨d3, d4, d5, d6, d7, s0, d8⟩ := c3
    refine ⟨c1.fr d6 hf (by decide), ⟨by rw [uI_at, if_pos rfl]; rfl, fun k hk => absurd hk (Nat.not_lt_zero k)⟩, d3.fr hf d6 (fun q hq => by rw [List.mem_singleton] at hq; rw [hq]; simp) rfl rfl rfl rfl, d4.fr hf d6 (by simp) (by simp) (by simp) (by simp) (fun e _ => by simp) (fun s _ => by simp) rfl, ⟨d5.1.fr hf d6 (by simp) (by simp), d5.2.fr d6 hf (by decide)⟩, d6.fr hf, d7, s0, d8.fr hf (fun q hq => by rw [List.mem_singleton] at hq; rw [hq]; unfold cSc; simp)⟩
  · have hf : mFr [0, 2] τ (mI (mI τ 0 (nI 0)) 2 (nI 0)) := (mFr.I (by decide)).tr (mFr.I (by decide))
    obtain ⟨e3, e4, e5, e6⟩ := m3
    exact ⟨m1.fr hf (by decide), ⟨mI_at _ _ _, fun k hk => absurd hk (Nat.not_lt_zero k)⟩, e3.fr hf (by decide), e4.fr hf (by decide), e5.fr hf (by decide), e6.fr hf (by decide)⟩
theorem meth_coins (hR : Rel g σ τ) : ∃ v τ', fc_X11_coins σ = some (v, σ) ∧ fm_coins τ = some (v, τ') ∧ Rel g σ τ' := by
  refine ⟨g.p.co, mI τ 0 0, ?_, ?_, hR.1, hR.2.1, hR.2.2.th _⟩
  · unfold fc_X11_coins
    rw [hR.2.1.2.2.2.1.1.2.1]
  · unfold fm_coins
    rw [mI_ne _ _ (by decide), hR.2.2.2.2.2.2.2.1.2.1]
theorem meth_sales (hR : Rel g σ τ) : ∃ v τ', fc_X11_sales σ = some (v, σ) ∧ fm_sales τ = some (v, τ') ∧ Rel g σ τ' := by
  refine ⟨nI g.p.S, mI τ 0 0, ?_, ?_, hR.1, hR.2.1, hR.2.2.th _⟩
  · unfold fc_X11_sales
    rw [hR.2.1.2.2.2.1.1.2.2.2.1.size, Option.bind_some]
  · unfold fm_sales
    rw [mI_ne _ _ (by decide), hR.2.2.2.2.2.2.2.1.2.2]
theorem meth_node (hR : Rel g σ τ) : Alk [2] g (fc_X11_node σ) (fm_node τ) := by
  refine Alk.begun (v := 0) hR rfl rfl rfl (fun τ' => if_neg (show ¬ nI 1 = 0 by decide)) fun h0 => ?_
  refine Alk.v (v := nI g.t.now) (ks := [0]) (τ' := mI τ 0 (nI 0)) hR ?_ ?_ (mI_at _ _ _) (mFr.I (by decide)) (by decide)
  · rw [hR.2.1.2.2.1.1.1]
  · show (if nI 0 = 0 then fm_node_15 (mI τ 0 (nI 0)) ((mI τ 0 (nI 0)).1 34) else _) = _
    rw [if_pos (show nI 0 = 0 from rfl), mI_ne _ _ (by decide), hR.2.2.2.2.1.1.2.1]
    rfl
theorem meth_nodes (hR : Rel g σ τ) : Alk [2] g (fc_X11_nodes σ) (fm_nodes τ) := by
  refine Alk.begun (v := 0) hR rfl rfl rfl (fun τ' => if_neg (show ¬ nI 1 = 0 by decide)) fun h0 => ?_
  refine Alk.v (v := nI g.t.N) (ks := [0]) (τ' := mI τ 0 (nI 0)) hR ?_ ?_ (mI_at _ _ _) (mFr.I (by decide)) (by decide)
  · rw [hR.2.1.2.2.1.1.2.1.size, Option.bind_some]
  · show (if nI 0 = 0 then fm_nodes_15 (mI τ 0 (nI 0)) ((mI τ 0 (nI 0)).1 33) else _) = _
    rw [if_pos (show nI 0 = 0 from rfl), mI_ne _ _ (by decide), hR.2.2.2.2.1.1.1]
    rfl
theorem meth_known (hR : Rel g σ τ) : Alk [2] g (fc_X11_known σ) (fm_known τ) := by
  refine Alk.begun (v := 0) hR rfl rfl rfl (fun τ' => if_neg (show ¬ nI 1 = 0 by decide)) fun h0 => ?_
  obtain ⟨k1, k2, k3, -⟩ := hR.1
  have hM : MTr (mI τ 0 (nI 0)) g.w g.t := hR.2.2.2.2.1.fr (mFr.I (List.mem_singleton.mpr rfl)) (by decide)
  refine Alk.v (v := nI (sBits (sKn g.t g.t.now))) (ks := [0]) (τ' := mI τ 0 (nI 0)) hR ?_ ?_ (mI_at _ _ _) (mFr.I (by decide)) (by decide)
  · rw [fc_wordsKnown_s k1 k3 hR.2.1.2.2.1 h0, Option.bind_some]
  · show (if nI 0 = 0 then (fm_knownMany (mI τ 0 (nI 0))).bind fun r_2 => fm_known_15 r_2.2 r_2.1 else _) = _
    rw [if_pos (show nI 0 = 0 from rfl), fm_known_many k3 hM h0, Option.bind_some]
    rfl
theorem meth_at (hR : Rel g σ τ) : Alk [2] g (fc_X11_at σ) (fm_at τ) := by
  have hC := hR.2.1.2.2.1
  have ht := hR.1.2.2.1
  have e : fc_X11_at σ = xb (fc_X11_needPlay σ) fun _ u => (dr u 6 (some (g.t.now + 1))).bind fun i => some (.inr (cI u 6 i 0), u) := by
    unfold fc_X11_at
    rw [fc_stateHere_s ht hC, xb_xb]
  refine Alk.begun (v := 0) hR rfl e rfl (fun τ' => if_neg (show ¬ nI 1 = 0 by decide)) fun h0 => ?_
  have hn := ht.1.2.1 h0
  obtain ⟨-, -, -, -, -, r5, -⟩ := hC.2.1 _ hn
  refine Alk.v (v := nI (g.t.st g.t.now).rm) (ks := [0]) (τ' := mI τ 0 (nI 0)) hR ?_ ?_ (mI_at _ _ _) (mFr.I (by decide)) (by decide)
  · rw [dr_mk r5.1.1, Option.bind_some, r5.2.2.1]
  · have h80 := ht.1.1
    have x1 : ¬ 80 ≤ g.t.now := by omega
    have y : (nI g.t.now < (0 : Int32) ∨ False) = False := by
      rw [n0, jLt (by omega) (by omega)]
      simp
    have e34 : (mI τ 0 (nI 0)).1 34 = nI g.t.now := by rw [mI_ne _ _ (by decide)]; exact hR.2.2.2.2.1.1.2.1
    have e21 : (mI τ 0 (nI 0)).2.2.1 21 g.t.now = nI (g.t.st g.t.now).rm := (hR.2.2.2.2.1.2 _ hn).2.2.1
    show (if nI 0 = 0 then (if (mI τ 0 (nI 0)).1 34 < 0 ∨ 80 ≤ ((mI τ 0 (nI 0)).1 34).toNatClampNeg then none else fm_at_20 (mI τ 0 (nI 0)) ((mI τ 0 (nI 0)).2.2.1 21 ((mI τ 0 (nI 0)).1 34).toNatClampNeg)) else _) = _
    rw [if_pos (show nI 0 = 0 from rfl)]
    simp only [e34, jCl (show g.t.now < 100000 by omega), x1, y, if_false, e21]
    rfl
end B19
