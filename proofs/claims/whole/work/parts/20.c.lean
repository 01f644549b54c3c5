/-! Told ahead of play: room, show, tell. -/
theorem xb_if {β γ : Type} {σ : cS} {p : Bool} {c : Nat} {u : β} {F : β → cS → Option ((Nat ⊕ γ) × cS)} : xb (some (if p = true then .inr u else .inl c, σ)) F = if p = true then F u σ else some (.inl c, σ) := by
  cases p <;> rfl
theorem xb_ifP {β γ : Type} {σ : cS} {p : Prop} [Decidable p] {c : Nat} {u : β} {F : β → cS → Option ((Nat ⊕ γ) × cS)} : xb (some (if p then .inr u else .inl c, σ)) F = if p then F u σ else some (.inl c, σ) := by
  by_cases h : p
  · rw [if_pos h, if_pos h]; rfl
  · rw [if_neg h, if_neg h]; rfl
theorem Alk.ite {ex : List Nat} {g : Gm} {p : Prop} [Decidable p] {f1 f2 : Option ((Nat ⊕ Int32) × cS)} {m1 m2 : Option (Int32 × mS)} (h1 : p → Alk ex g f1 m1) (h2 : ¬ p → Alk ex g f2 m2) : Alk ex g (if p then f1 else f2) (if p then m1 else m2) := by
  by_cases h : p
  · rw [if_pos h, if_pos h]; exact h1 h
  · rw [if_neg h, if_neg h]; exact h2 h
section C20
variable {g : Gm} {σ : cS} {τ : mS}
theorem begun_if {w : Wd} {t : Tr} (hM : MTr τ w t) {α : Type} (x y : α) : (if τ.1 20 = 0 then x else y) = if t.N = 0 then x else y := by
  rw [hM.1.2.2, bI_if]
  by_cases z : t.N = 0
  · rw [if_pos z, if_neg (show ¬ decide (0 < t.N) = true by rw [decide_eq_true_iff]; omega)]
  · rw [if_neg z, if_pos (show decide (0 < t.N) = true by rw [decide_eq_true_iff]; omega)]
theorem fc_needRoom_s {w : Wd} (hw : Wd.ok w) (hW : CWd σ w) (v : Int32) : fc_X11_needRoom σ v = some (if vIn v w.R = true then .inr () else .inl 4, σ) := by
  unfold fc_X11_needRoom
  rw [fc_hasRoom_v hw hW, Option.bind_some, bI_if]
  by_cases q : vIn v w.R = true
  · rw [if_pos q, if_pos q]
  · rw [if_neg q, if_neg q]
/-- an answer of what is told ahead of play -/
theorem Alk.ahead {ex : List Nat} {w' : Wd} {σ' : cS} {τ' : mS} {ps : List (Nat × Nat)} {ks : List Nat} {v : Int32} {f : Option ((Nat ⊕ Int32) × cS)} {m : Option (Int32 × mS)} (hR : Rel g σ τ) (h0 : g.t.N = 0) (hf' : f = some (.inr v, σ')) (hm' : m = some (v, τ')) (hth : τ'.1 0 = nI 0) (hw' : Wd.ok w') (hWW : w'.W = g.w.W) (hf : cFr ps σ σ') (hp : ∀ q ∈ ps, q ∈ cWk) (hc : cn σ' = cn σ) (hr : mFr ks τ τ') (hk : ∀ k ∈ ks, k ∈ 0 :: mWk) (hC : CWd σ' w') (hM : MWd τ' w') : Alk ex g f m :=
  ⟨(w', g.l, g.t, g.p), .inr v, σ', v, τ', hf', hm', by rw [hth]; exact Agr.v, hR.ahead h0 hw' hWW hf hp hc hr hk hC hM⟩
/-- a further room -/
def wRoom (w : Wd) (b : Bool) : Wd := ((fun a => if a = 1 then w.R + 1 else w.1 a), w.2.1, (fun r => if r = w.R then b else w.dark r), w.2.2.2)
theorem wRoom_ok {w : Wd} (hw : Wd.ok w) (h : w.R < 12) (b : Bool) : Wd.ok (wRoom w b) := by
  obtain ⟨⟨a1, a2, a3, a4⟩, hb, c, d, e, f, hh, i, j, k, m, n⟩ := hw
  have eR : (wRoom w b).R = w.R + 1 := rfl
  refine ⟨⟨a1, by omega, a3, a4⟩, hb, c, fun i q hq => ?_, e, fun x hx => ?_, hh, i, fun r hr => j r (by omega), fun y hy => ?_, m, n⟩
  · have := d i q hq
    rw [eR]
    omega
  · obtain ⟨x1, x2, x3⟩ := f x hx
    exact ⟨x1, Nat.lt_of_lt_of_le x2 (by omega), x3⟩
  · obtain ⟨x1, x2⟩ := k y hy
    exact ⟨x1, Nat.lt_of_lt_of_le x2 (by omega)⟩
theorem fm_room_l {R : Nat} (hR : R < 12) : ∀ (d x n : Nat) (τ : mS), x + d = 6 → d < n → τ.1 9 = nI R → (∀ j, j < x → τ.2.2.1 7 (6 * R + j) = -nI 1 ∧ τ.2.2.1 8 (6 * R + j) = -nI 1) → ∃ τ', fm_room_42 n τ (nI x) = some (nI R, mI τ' 9 (nI (R + 1))) ∧ mFr [7, 8] τ τ' ∧ (∀ j, j < 6 → τ'.2.2.1 7 (6 * R + j) = -nI 1 ∧ τ'.2.2.1 8 (6 * R + j) = -nI 1) ∧ ∀ i, i < 6 * R → τ'.2.2.1 7 i = τ.2.2.1 7 i ∧ τ'.2.2.1 8 i = τ.2.2.1 8 i := by
  have eW : nI (R + 1) - nI 1 = nI R := by rw [jSub (by omega)]; rfl
  intro d
  induction d with
  | zero =>
    intro x n τ hx hn h9 hj
    obtain ⟨n, rfl⟩ : ∃ m, n = m + 1 := ⟨n - 1, by omega⟩
    refine ⟨τ, ?_, mFr.rf _ _, fun j h => hj j (by omega), fun _ _ => ⟨rfl, rfl⟩⟩
    rw [show fm_room_42 (n + 1) τ (nI x) = if (6 : Int32) ≤ nI x then some ((((mI τ 9 ((τ.1 9) + (1 : Int32))).1 9) - (1 : Int32)), (mI τ 9 ((τ.1 9) + (1 : Int32)))) else _ from rfl]
    rw [if_pos (show (6 : Int32) ≤ nI x by rw [show x = 6 by omega]; decide), mI_at, h9, n1, jAdd, eW]
  | succ d ih =>
    intro x n τ hx hn h9 hj
    obtain ⟨n, rfl⟩ : ∃ m, n = m + 1 := ⟨n - 1, by omega⟩
    have h9' : (mA τ 7 (6 * R + x) (-1 : Int32)).1 9 = nI R := h9
    have step : fm_room_42 (n + 1) τ (nI x) = fm_room_42 n (mA (mA τ 7 (6 * R + x) (-nI 1)) 8 (6 * R + x) (-nI 1)) (nI (x + 1)) := by
      rw [show fm_room_42 (n + 1) τ (nI x) = if (6 : Int32) ≤ nI x then _ else if (((6 : Int32) * (τ.1 9)) + nI x) < 0 ∨ 72 ≤ (((6 : Int32) * (τ.1 9)) + nI x).toNatClampNeg then none else if (((6 : Int32) * ((mA τ 7 (((6 : Int32) * (τ.1 9)) + nI x).toNatClampNeg (-1 : Int32)).1 9)) + nI x) < 0 ∨ 72 ≤ (((6 : Int32) * ((mA τ 7 (((6 : Int32) * (τ.1 9)) + nI x).toNatClampNeg (-1 : Int32)).1 9)) + nI x).toNatClampNeg then none else (fm_room_42 n) (mA (mA τ 7 (((6 : Int32) * (τ.1 9)) + nI x).toNatClampNeg (-1 : Int32)) 8 (((6 : Int32) * ((mA τ 7 (((6 : Int32) * (τ.1 9)) + nI x).toNatClampNeg (-1 : Int32)).1 9)) + nI x).toNatClampNeg (-1 : Int32)) (nI x + (1 : Int32)) from rfl]
      have en : ¬ (nI (6 * R + x) < 0 ∨ 72 ≤ (nI (6 * R + x)).toNatClampNeg) := fun h => (jIn (show 6 * R + x < 72 by omega) (by omega)).mp h
      rw [if_neg (show ¬ (6 : Int32) ≤ nI x by rw [n6, jLe (by omega) (by omega)]; omega), h9, n6, jMul, jAdd, if_neg en, jCl (by omega), h9', jMul, jAdd, if_neg en, jCl (by omega), n1, jAdd]
    obtain ⟨τ', g1, g2, g3, g4⟩ := ih (x + 1) n (mA (mA τ 7 (6 * R + x) (-nI 1)) 8 (6 * R + x) (-nI 1)) (by omega) (by omega) h9 (fun j hj2 => by
      rw [mA_at, mA_ne _ _ _ (by decide), mA_at]
      by_cases q : j = x
      · rw [if_pos (by rw [q]), if_pos (by rw [q])]; exact ⟨rfl, rfl⟩
      · rw [if_neg (by omega)]
        have h8 : (mA τ 7 (6 * R + x) (-nI 1)).2.2.1 8 = τ.2.2.1 8 := mA_ne _ _ _ (by decide)
        rw [if_neg (by omega), h8]
        exact hj j (by omega))
    refine ⟨τ', by rw [step, g1], ((mFr.A (by decide)).tr (mFr.A (by decide))).tr g2, g3, fun i hi => ?_⟩
    obtain ⟨z1, z2⟩ := g4 i hi
    have h8 : (mA τ 7 (6 * R + x) (-nI 1)).2.2.1 8 = τ.2.2.1 8 := mA_ne _ _ _ (by decide)
    rw [z1, z2, mA_at, mA_ne _ _ _ (by decide), mA_at, if_neg (by omega), if_neg (by omega), h8]
    exact ⟨rfl, rfl⟩
theorem meth_room (hR : Rel g σ τ) (b : Bool) : Alk [2] g (fc_X11_room σ (bI b)) (fm_room τ (bI b)) := by
  have hw := hR.1.1
  have hC := hR.2.1.1
  have hM := hR.2.2.1
  have hT := hR.2.2.2.2.1
  have h12 := hw.1.2.1
  have bad : fm_room_22 τ (bI b) (nI 1) = some (0, mI τ 0 (nI 1)) := by
    unfold fm_room_22
    rw [wrong_s τ (by omega) (by omega)]
    exact if_neg nz1
  unfold fc_X11_room fm_room fm_room_17
  rw [fc_needNoPlay_s hR.2.1.2.2.1 hR.1.2.2.1.1.1, xb_ifP, begun_if hT, hM.1.2.1, n12, n1]
  by_cases h0 : g.t.N = 0
  · rw [if_pos h0, if_pos h0]
    show Alk [2] g (if cI σ 2 0 6 < (12 : Int32) then (if cI σ 2 0 6 < 0 ∨ 12 ≤ (cI σ 2 0 6).toNatClampNeg then none else some (.inr ((cI (uI (uI σ 13 0 (cI σ 2 0 6).toNatClampNeg (bI b &&& 1)) 2 0 6 ((cI (uI σ 13 0 (cI σ 2 0 6).toNatClampNeg (bI b &&& 1)) 2 0 6) + (1 : Int32))) 2 0 6) - (1 : Int32)), (uI (uI σ 13 0 (cI σ 2 0 6).toNatClampNeg (bI b &&& 1)) 2 0 6 ((cI (uI σ 13 0 (cI σ 2 0 6).toNatClampNeg (bI b &&& 1)) 2 0 6) + (1 : Int32))))) else some (.inl 2, σ)) _
    rw [hC.1.2.1, n12]
    by_cases z : g.w.R = 12
    · rw [if_neg (show ¬ nI g.w.R < nI 12 by rw [jLt (by omega) (by omega)]; omega), if_pos (show nI g.w.R = nI 12 by rw [z])]
      exact Alk.x (c := 2) (j := 0) (v := 0) hR rfl bad rfl
    · rw [if_pos (show nI g.w.R < nI 12 by rw [jLt (by omega) (by omega)]; omega), if_neg (show ¬ nI g.w.R = nI 12 by rw [jEq (by omega) (by omega)]; exact z), n0, if_neg (fun h => (jIn (show g.w.R < 12 by omega) (by omega)).mp h), jCl (by omega), n1, bI_z]
      have e1 : cI (uI σ 13 0 g.w.R (bI b)) 2 0 6 = nI g.w.R := hC.1.2.1
      rw [e1, jAdd]
      obtain ⟨σ1, hσ⟩ : ∃ σ1, σ1 = uI (uI σ 13 0 g.w.R (bI b)) 2 0 6 (nI (g.w.R + 1)) := ⟨_, rfl⟩
      have eσ : cI σ1 2 0 6 = nI (g.w.R + 1) := by rw [hσ, uI_at, if_pos rfl]
      obtain ⟨τ', g1, g2, g3, g4⟩ := fm_room_l (R := g.w.R) (by omega) 6 0 3000 (mA (mI τ 0 (nI 0)) 5 g.w.R (bI b)) (by omega) (by omega) hM.1.2.1 (fun j hj => by omega)
      obtain ⟨τ1, hτ⟩ : ∃ τ1, τ1 = mI τ' 9 (nI (g.w.R + 1)) := ⟨_, rfl⟩
      have em : fm_room_22 τ (bI b) (nI 0) = some (nI g.w.R, τ1) := by
        unfold fm_room_22
        rw [right_s]
        have e9 : (mI τ 0 (nI 0)).1 9 = nI g.w.R := hM.1.2.1
        show (if nI 0 = 0 then (if (mI τ 0 (nI 0)).1 9 < nI 0 ∨ 12 ≤ ((mI τ 0 (nI 0)).1 9).toNatClampNeg then none else fm_room_42 3000 (mA (mI τ 0 (nI 0)) 5 ((mI τ 0 (nI 0)).1 9).toNatClampNeg (bI b &&& nI 1)) (nI 0)) else _) = _
        rw [if_pos (show nI 0 = 0 from rfl), e9, if_neg (fun h => (jIn (show g.w.R < 12 by omega) (by omega)).mp h), jCl (by omega), bI_z, g1, hτ]
      rw [em, ← hσ, eσ, jSub (by omega), show g.w.R + 1 - 1 = g.w.R by omega]
      have hf : cFr [(13, 0), (2, 0)] σ σ1 := by rw [hσ]; exact (cFr.I (by simp)).tr (cFr.I (by simp))
      have hr : mFr [0, 5, 7, 8, 9] τ τ1 := by rw [hτ]; exact (((mFr.I (by decide)).tr (mFr.A (by decide))).tr (g2.wk (by decide))).tr (mFr.I (by decide))
      refine Alk.ahead (w' := wRoom g.w b) hR h0 rfl rfl ?_ (wRoom_ok hw (by omega) b) rfl hf (by decide) (by rw [hσ]; rfl) hr (by decide) ?_ ?_
      · have h00 := (g2 0 (by decide)).1
        rw [hτ, mI_ne _ _ (by decide), h00]
        exact mI_at τ 0 (nI 0)
      · obtain ⟨⟨c1, c2, c3, c4⟩, c5, c6, c7, c8, c9, c10, c11⟩ := hC
        have I : ∀ k i, ¬ (k = 13 ∧ i = 0) → ¬ (k = 2 ∧ i = 0) → cI σ1 k i = cI σ k i := fun k i h1 h2 => by
          rw [hσ, uI_ne _ _ _ h2, uI_ne _ _ _ h1]
        have I2 : ∀ f, f ≠ 6 → cI σ1 2 0 f = cI σ 2 0 f := fun f h => by
          rw [hσ, uI_at, if_neg h]; rfl
        have J : cJ σ1 = cJ σ := by rw [hσ]; rfl
        refine ⟨⟨(I2 1 (by decide)).trans c1, eσ, (I2 13 (by decide)).trans c3, (I2 16 (by decide)).trans c4⟩, fun i hi => by rw [J]; exact c5 i hi, fun r hr => ?_, fun r hr => by rw [J]; exact c7 r hr, fun i hi => by rw [I 12 2 (by decide) (by decide), I 12 3 (by decide) (by decide)]; exact c8 i hi, fun x hx => by rw [I 12 4 (by decide) (by decide), I 12 6 (by decide) (by decide), I 14 1 (by decide) (by decide)]; exact c9 x hx, fun x hx => by rw [I 12 5 (by decide) (by decide), I 12 7 (by decide) (by decide)]; exact c10 x hx, fun y hy => by rw [I 12 8 (by decide) (by decide), I 12 9 (by decide) (by decide)]; exact c11 y hy⟩
        have hr' : r < g.w.R + 1 := hr
        show cI σ1 13 0 r = bI (if r = g.w.R then b else g.w.dark r)
        rw [hσ, uI_ne _ _ _ (by decide), uI_at]
        by_cases z2 : r = g.w.R
        · rw [if_pos z2, if_pos z2]
        · rw [if_neg z2, if_neg z2]
          exact c6 r (by omega)
      · obtain ⟨⟨d1, d2, d3, d4⟩, d5, d6, d7, d8, d9, d10⟩ := hM
        have A := fun k (h : k ∉ ([0, 5, 7, 8, 9] : List Nat)) => hr k h
        have e5 : τ1.2.2.1 5 = (mA (mI τ 0 (nI 0)) 5 g.w.R (bI b)).2.2.1 5 := by rw [hτ]; exact (g2 5 (by decide)).2.2.1
        have e7 : τ1.2.2.1 7 = τ'.2.2.1 7 ∧ τ1.2.2.1 8 = τ'.2.2.1 8 := by rw [hτ]; exact ⟨rfl, rfl⟩
        have hex : ∀ j, g.w.ex (6 * g.w.R + j) = none ∧ g.w.lk (6 * g.w.R + j) = none := by
          intro j
          have x1 : g.w.ex (6 * g.w.R + j) = none := by
            cases hz : g.w.ex (6 * g.w.R + j) with
            | none => rfl
            | some q => have := (hw.2.2.2.1 _ _ hz).1; omega
          refine ⟨x1, ?_⟩
          cases hz : g.w.lk (6 * g.w.R + j) with
          | none => rfl
          | some q => exact absurd x1 (hw.2.2.2.2.1 _ _ hz).2
        refine ⟨⟨by rw [(A 4 (by decide)).1]; exact d1, by rw [hτ]; exact mI_at _ _ _, by rw [(A 16 (by decide)).1]; exact d3, by rw [(A 19 (by decide)).1]; exact d4⟩, ?_, fun r hr => ?_, ?_, fun i hi => ?_, ?_, ?_⟩
        · rw [(A 3 (by decide)).2.2.1]; exact d5
        · have hr' : r < g.w.R + 1 := hr
          show τ1.2.2.1 5 r = bI (if r = g.w.R then b else g.w.dark r)
          rw [e5, mA_at]
          by_cases z2 : r = g.w.R
          · rw [if_pos z2, if_pos z2]
          · rw [if_neg z2, if_neg z2]
            exact d6 r (by omega)
        · rw [(A 6 (by decide)).2.2.2, (A 15 (by decide)).2.2.2]; exact d7
        · have hi' : i < 6 * (g.w.R + 1) := hi
          show τ1.2.2.1 7 i = oI (g.w.ex i) ∧ τ1.2.2.1 8 i = oI (g.w.lk i)
          rw [e7.1, e7.2]
          by_cases z2 : i < 6 * g.w.R
          · obtain ⟨y1, y2⟩ := g4 i z2
            rw [y1, y2]
            exact d8 i z2
          · obtain ⟨y1, y2⟩ := g3 (i - 6 * g.w.R) (by omega)
            obtain ⟨u1, u2⟩ := hex (i - 6 * g.w.R)
            rw [show 6 * g.w.R + (i - 6 * g.w.R) = i by omega] at y1 y2 u1 u2
            rw [y1, y2, u1, u2]
            exact ⟨rfl, rfl⟩
        · rw [(A 10 (by decide)).2.2.1, (A 11 (by decide)).2.2.1, (A 12 (by decide)).2.2.1, (A 13 (by decide)).2.2.1, (A 14 (by decide)).2.2.1]; exact d9
        · rw [(A 17 (by decide)).2.2.1, (A 18 (by decide)).2.2.1]; exact d10
  · rw [if_neg h0, if_neg h0]
    refine Alk.x (c := 2) (j := 0) (v := 0) hR rfl ?_ rfl
    by_cases z : nI g.w.R = nI 12
    · rw [if_pos z]; exact bad
    · rw [if_neg z]; exact bad
end C20
