/-! To follow a command: both sides. -/
section M20
variable {g : Gm} {σ σ1 : cS} {τ τ1 : mS} {s : St} {q : Cm} {c : Nat}
theorem sFol_none {w : Wd} {tc : Nat → Int64} {t : Tr} (e : sChd t q = none) : sFol w tc t s q = tAdd t (sBurn w s) (sShown w (sBurn w s) ||| sBes w tc q) q := by
  unfold sFol
  rw [e]
theorem sFol_some {w : Wd} {tc : Nat → Int64} {t : Tr} {n : Nat} (e : sChd t q = some n) : sFol w tc t s q = tAt t n := by
  unfold sFol
  rw [e]
theorem sChd_lt {t : Tr} {n : Nat} (h0 : 0 < t.N) (e : sChd t q = some n) : n < t.N := by
  have := List.mem_of_find?_eq_some e
  rw [List.mem_range'_1] at this
  omega
theorem Gm.ok.fol (h : Gm.ok g) (h0 : 0 < g.t.N) (hN : sChd g.t q = none → g.t.N < 80) (hq : cmQ g.w q) (hb : 12 ≤ q.1 → q.1 ≤ 13 → ∀ b, q.2.1 = some b → b < g.p.H) (hr : rplQ g.w g.t s q) (h12 : q.1 ≠ 12) : Gm.ok (g.w, g.l, sFol g.w g.p.te g.t s q, g.p) := by
  cases e : sChd g.t q with
  | none =>
    rw [sFol_none e]
    exact h.add h0 (hN e) hq hb (Nat.le_refl _) hr (wset_or (sShown_wset h.1 _) (sBes_wset h.1 (fun j => (h.2.2.2.1.2.1 j).1) q)) (Sp.ok.add h.2.2.1 h.2.2.2.1 h12)
  | some n =>
    rw [sFol_some e]
    exact h.at_ (sChd_lt h0 e)
/-- a throw on both sides, where the class made something of no account -/
theorem Alk.x' {ex : List Nat} {c j : Nat} {v : Int32} {f : Option ((Nat ⊕ Int32) × cS)} {m : Option (Int32 × mS)} {τ2 : mS} (hok : Gm.ok g) (hC : CR σ1 g) (hM : MR τ2 g) (hf : f = some (.inl c, σ1)) (hm : m = some (v, τ2)) (h0 : τ2.1 0 = nI (j + 1)) (h : ex[j]? = some c) : Alk ex g f m :=
  ⟨g, .inl c, σ1, v, _, hf, hm, by rw [h0]; exact Agr.x h, hok, hC, hM⟩
theorem CR.new (h : CR σ g) (hf : ∀ ps, cFr ps σ σ1) (hcn : ∀ k, cn σ1 k = if k = 8 then cn σ 8 + 1 else cn σ k) : CR σ1 g := by
  obtain ⟨s0, h8⟩ := h.2.2.2.2.2.2.2
  exact h.fr (ps := []) (hf []) (fun q hq => absurd hq (List.not_mem_nil)) (fun k h1 _ _ => by rw [hcn, if_neg h1]) ⟨s0, h8.fr (hf []) (fun q hq => absurd hq (List.not_mem_nil))⟩ (h.2.2.2.2.1.2.fr h.2.2.2.2.2.1 (hf []) (fun q hq => absurd hq (List.not_mem_nil)))
theorem CR.sc (h : CR σ g) (hf : cFr (cSc 0) σ σ1) (hcn : cn σ1 = cn σ) (h6 : RSt σ1 0 s) : CR σ1 g :=
  h.fr hf (fun q hq => Or.inl hq) (fun k _ _ _ => by rw [hcn]) ⟨s, h6⟩ (h.2.2.2.2.1.2.fr h.2.2.2.2.2.1 hf (by decide))
theorem CR.fol (h : CR σ g) (h0 : 0 < g.t.N) (hok : Gm.ok g) (hq : cmQ g.w q) (hh : 12 ≤ q.1 → q.1 ≤ 13 → ∀ b, q.2.1 = some b → b < 12) (hc : RCm σ c q) (hs : St.ok g.w s) (h6 : RSt σ 0 s) (hN : sChd g.t q = none → g.t.N < 80) : ∃ σ', fc_X11_follow σ (some c) = some σ' ∧ CR σ' (g.w, g.l, sFol g.w g.p.te g.t s q, g.p) ∧ (∀ k, k ∉ ([6, 7, 12, 13, 17] : List Nat) → cn σ' k = cn σ k) := by
  obtain ⟨h1, h2, h3, h4, h5, h6', h7, -⟩ := h
  obtain ⟨σ', e, f1, f2, ⟨ee, f3, f4⟩, f5, f6⟩ := fc_follow_s hok.1 h1 hok.2.2.1 h3 h6' h5.1 h7 h0 (fun n a b => (hok.2.2.2.2.1 n a b).1) hq hh h4.2.2.1 hc hs h6 hN
  refine ⟨σ', e, ⟨h1.fr h6' f4 (fun q hq => ?_), h2.fr h6' f4 (by simp [cSc]) (by simp [cSc]), f1, h4.fr f4 h6' (by simp [cSc]) (by simp [cSc]) (by simp [cSc]) (by simp [cSc]) (fun e' he' => ?_) (fun s _ => by simp [cSc]) (f5 9 (by decide)), ⟨f2, h5.2.fr h6' f4 (fun q hq => by simp [cSc] at hq; rcases hq with rfl | rfl | rfl | rfl | rfl | rfl | rfl | rfl <;> simp)⟩, h6'.fr f4, by rw [f5 18 (by decide)]; exact h7, f6⟩, f5⟩
  · unfold cWk
    simp [cSc] at hq
    rcases hq with rfl | rfl | rfl | rfl | rfl | rfl | rfl | rfl <;> simp
  · have : e' ≠ ee := fun z => f3 (by rw [he', z])
    simp [cSc]
    exact this
/-- the reference's game, but for the shop -/
def MR5 (τ : mS) (w : Wd) (l : List Nat) (t : Tr) : Prop := MWd τ w ∧ MTx τ l ∧ MTr τ w t ∧ MCs τ w t ∧ MNm τ t
theorem MR5.fr {ks : List Nat} {τ τ' : mS} {w : Wd} {l : List Nat} {t : Tr} (h : MR5 τ w l t) (hf : mFr ks τ τ') (hk : ∀ k ∈ mRk, k ∉ ([32, 43, 44, 45, 46, 47, 48, 49] : List Nat) → k ∉ ks) : MR5 τ' w l t := by
  obtain ⟨h1, h2, h3, h4, h5⟩ := h
  exact ⟨h1.fr hf (fun k q => hk k (by revert k; decide) (by revert k; decide)), h2.fr hf (hk 1 (by decide) (by decide)) (hk 2 (by decide) (by decide)), h3.fr hf (fun k q => hk k (by revert k; decide) (by revert k; decide)), h4.fr hf (fun k q => hk k (by revert k; decide) (by revert k; decide)), h5.fr hf (hk 31 (by decide) (by decide))⟩
theorem come0 (h : MR5 τ g.w g.l g.t) (h0 : 0 < g.t.N) (hok : Gm.ok g) (hm : MSt τ g.w.T s) (hs : St.ok g.w s) (hN : g.t.N < 80) (hq : cmQ g.w q) (hql : q.1 < 12 → sText g.w q = g.l) (hsg : τ.2.1 39 = sBes g.w g.p.te q) (e : sChd g.t q = none) : ∃ τ', fm_comes τ (nI (kdQ q.1)) (if q.1 < 12 then nI 0 else oI q.2.1) = some τ' ∧ MR5 τ' g.w g.l (sFol g.w g.p.te g.t s q) ∧ mFr fCm τ τ' ∧ τ'.1 34 = nI g.t.N ∧ ∀ i, τ'.2.2.1 32 i = if i = g.t.N then -nI 1 else τ.2.2.1 32 i := by
  obtain ⟨m1, m2, ⟨⟨m33, m34, m20⟩, m3⟩, m4, m5⟩ := h
  have eN : sNew g.w g.t s = sBurn g.w s := if_neg (by omega)
  obtain ⟨τ', f1, ⟨f2, f3⟩, f4, f5, f6, f7, f8⟩ := fm_comes_s hok.1 m1 hok.2.1 m2 hok.2.2.1 hs hm hN m33 m34 m3 m4 m5 (q := q) (sg := sShown g.w (sBurn g.w s) ||| sBes g.w g.p.te q) (by rw [hsg, eN, Int64.or_comm]) (fun _ => ⟨hq, hql⟩)
  rw [eN] at f4 f5 f6
  refine ⟨τ', f1, ?_, f7, f3, f8⟩
  rw [sFol_none e]
  refine ⟨m1.fr f7 (by decide), m2.fr f7 (by decide) (by decide), ⟨⟨f2, f3, ?_⟩, f4⟩, f5, f6⟩
  rw [(f7 20 (by decide)).1, m20]
  show bI (decide (0 < g.t.N)) = bI (decide (0 < g.t.N + 1))
  rw [decide_eq_true h0, decide_eq_true (by omega)]
theorem MR.come (h : MR τ g) (h0 : 0 < g.t.N) (hok : Gm.ok g) (hm : MSt τ g.w.T s) (hs : St.ok g.w s) (hN : g.t.N < 80) (hq : cmQ g.w q) (hql : q.1 < 12 → sText g.w q = g.l) (hsg : τ.2.1 39 = sBes g.w g.p.te q) (e : sChd g.t q = none) : ∃ τ', fm_comes τ (nI (kdQ q.1)) (if q.1 < 12 then nI 0 else oI q.2.1) = some τ' ∧ MR τ' (g.w, g.l, sFol g.w g.p.te g.t s q, g.p) ∧ mFr fCm τ τ' ∧ τ'.1 34 = nI g.t.N ∧ ∀ i, τ'.2.2.1 32 i = if i = g.t.N then -nI 1 else τ.2.2.1 32 i := by
  obtain ⟨m1, m2, m3, m4, m5, ⟨u1, u2, u3, u4⟩⟩ := h
  obtain ⟨τ', f1, ⟨x1, x2, x3, x4, x5⟩, f7, f3, f8⟩ := come0 ⟨m1, m2, m3, m4, m5⟩ h0 hok hm hs hN hq hql hsg e
  have A := fun k (h : k ∉ fCm) => f7 k h
  refine ⟨τ', f1, ⟨x1, x2, x3, x4, x5, ⟨by rw [(A 45 (by decide)).1, (A 46 (by decide)).1, (A 49 (by decide)).1]; exact u1, by rw [(A 43 (by decide)).2.2.1]; exact u2, by rw [(A 44 (by decide)).2.2.2]; exact u3, fun i hi => ?_⟩⟩, f7, f3, f8⟩
  have hi : i < g.p.S := hi
  obtain ⟨x1, x2, x3⟩ := hok.2.2.2.1.2.2.2.1 i hi
  rw [(A 47 (by decide)).2.2.1, (A 48 (by decide)).2.2.1, f8]
  show _ ∧ _ ∧ (if g.p.sn i = g.t.N then _ else _) = _
  rw [if_neg (by omega)]
  exact u4 i hi
theorem MR.went (h : MR τ g) {n : Nat} (e : sChd g.t q = some n) : MR (mI τ 34 (nI n)) (g.w, g.l, sFol g.w g.p.te g.t s q, g.p) := by
  rw [sFol_some e]
  exact h.at_ n
theorem fol_now (w : Wd) (tc : Nat → Int64) (t : Tr) : (sFol w tc t s q).now = match sChd t q with | none => t.N | some n => n := by
  cases e : sChd t q with
  | none => rw [sFol_none e]; rfl
  | some n => rw [sFol_some e]; rfl
theorem newCm (hC : CR σ g) {v : Nat} {a : Int32} {x : Option Nat} (hv : v < 15) (ha : a = oI x) : (dr (uN σ 8 0 0) 8 (some (cn σ 8))) = some (cn σ 8) ∧ ∃ σ', fc_X1_init (uN σ 8 0 0) (some (cn σ 8)) (some v) a (-1) = some σ' ∧ RCm σ' (cn σ 8) (v, x, none) ∧ CR σ' g ∧ (∀ ps, cFr ps σ σ') := by
  refine ⟨dr_mk ?_, ?_⟩
  · show cn σ 8 < (if 8 = 8 then cn σ 8 + 1 else cn σ 8)
    rw [if_pos rfl]
    omega
  · obtain ⟨σ', e1, e2, e3, e4⟩ := fc_newCmd (σ := σ) (v := v) (a := a) (b := -1) (x := x) (y := none) hC.2.2.2.2.2.2.1 hv ha rfl
    exact ⟨σ', e1, e2, hC.new e3 e4, e3⟩
/-- the node's state taken into the working one -/
theorem copyHere (hC : CR σ g) (h0 : 0 < g.t.N) (hok : Gm.ok g) : dr σ 7 (some g.t.now) = some g.t.now ∧ ∃ σ', fc_X6_copy σ (some 0) (cR σ 7 g.t.now 3) = some σ' ∧ RSt σ' 0 (g.t.st g.t.now) ∧ CR σ' g ∧ cFr (cSc 0) σ σ' := by
  have hn := hok.2.2.1.1.2.1 h0
  obtain ⟨-, -, r2, -, -, r5, -⟩ := hC.2.2.1.2.1 _ hn
  obtain ⟨s0, h8⟩ := hC.2.2.2.2.2.2.2
  obtain ⟨σ', e1, e2, e3, e4⟩ := fc_copy_s (i := 0) (j := g.t.now + 1) (by omega) r5 h8
  refine ⟨hC.2.2.1.dn hn, σ', by rw [r2]; exact e1, e2, hC.sc e3 e4 e2, e3⟩
theorem meth_read (hR : Rel g σ τ) (v : Int32) : Alk [4, 2, 3] g (fc_X11_read σ v) (fm_read τ v) := by
  obtain ⟨hok, hCR, hMR⟩ := id hR
  obtain ⟨k1, k2, k3, hp, k5, k6⟩ := id hok
  obtain ⟨r1, r2, r3, hC, r5, r6, r7, s0, r8⟩ := id hCR
  obtain ⟨m1, m2, m3, m4, m5, hM⟩ := id hMR
  have hMR0 := mr0 hMR
  obtain ⟨n1', n2, n3, n4, n5, n6'⟩ := id hMR0
  have bad : ∀ k, 0 < k → k < 1000 → fm_read_25 τ v (nI k) = some (0, mI τ 0 (nI k)) := fun k h1 h2 => by
    unfold fm_read_25
    rw [wrong_s τ (by omega) h1]
    exact if_neg nz1
  have bad2 : ∀ ch k, 0 < k → k < 1000 → fm_read_72 (mI τ 0 (nI 0)) v ch (nI k) = some (0, mI τ 0 (nI k)) := fun ch k h1 h2 => by
    unfold fm_read_72
    rw [wrong_s _ (by omega) h1, mI_twice]
    exact if_neg nz1
  unfold fc_X11_read fm_read
  rw [fc_needHint_s hp hC, xb_if, fm_isHint_s hp hM, Option.bind_some, bI_if]
  refine Alk.ite (fun qx => ?_) fun _ => Alk.x (c := 4) (j := 0) (v := 0) hR rfl (bad 1 (by omega) (by omega)) rfl
  show Alk [4, 2, 3] g (xb (fc_X11_needPlay σ) _) (if τ.1 20 = 0 then _ else _)
  rw [fc_needPlay_s r3 k3.1.1, xb_ifN, begun_if m3]
  refine Alk.ite (fun z => Alk.x (c := 2) (j := 1) (v := 0) hR rfl (bad 2 (by omega) (by omega)) rfl) fun z => ?_
  have h0 : 0 < g.t.N := by omega
  have h12 := hp.1.1
  have h80 := k3.1.1
  have hn := k3.1.2.1 h0
  have hS80 : g.p.S ≤ 80 := Nat.le_trans hp.1.2 k3.1.1
  obtain ⟨h, rfl, hh⟩ := vIn_ex (by omega) qx
  obtain ⟨q, hq⟩ : ∃ q : Cm, q = (13, some h, none) := ⟨_, rfl⟩
  have hq1 : q.1 = 13 := by rw [hq]
  have hcm : cmQ g.w q := Or.inr ⟨13, h, by omega, by omega, by omega, hq⟩
  obtain ⟨dr1, σ1, e1, e2, e3, e3'⟩ := newCm hCR (v := 13) (a := nI h) (x := some h) (by omega) rfl
  rw [← hq] at e2
  have hch : fm_childBy (mI τ 0 (nI 0)) 2 (nI h) = some (oI (sChd g.t q), mI τ 0 (nI 0)) := by
    rw [hq]
    exact fm_child_sp k3 n3 h0 n4 (v := 13) (by omega) (by omega) (by omega)
  have em25 : fm_read_25 τ (nI h) 0 = if oI (sChd g.t q) = (-1 : Int32) then (if (mI τ 0 (nI 0)).1 33 = (80 : Int32) then fm_read_72 (mI τ 0 (nI 0)) (nI h) (oI (sChd g.t q)) 2 else fm_read_59 (mI τ 0 (nI 0)) (nI h) (oI (sChd g.t q))) else fm_read_59 (mI τ 0 (nI 0)) (nI h) (oI (sChd g.t q)) := by
    unfold fm_read_25
    rw [show fm_isWrong τ 0 = fm_isWrong τ (nI 0) from rfl, right_s]
    show (if nI 0 = 0 then (fm_childBy (mI τ 0 (nI 0)) 2 (nI h)).bind _ else _) = _
    rw [if_pos (show nI 0 = 0 from rfl), hch, Option.bind_some]
  have ecl : (dr (uN σ 8 0 0) 8 (some (cn σ 8))).bind (fun _ => (fc_X1_init (uN σ 8 0 0) (some (cn σ 8)) (some 13) (nI h) (-1 : Int32)).bind fun r_5 => xb (fc_X11_needNodeFor r_5 (some (cn σ 8))) fun (v_7 : Unit) u_7 => (fc_X8_current u_7).bind fun r_8 => (fc_X5_isOwnedAt r_8.2 (nI h) r_8.1).bind fun r_9 => if r_9.1 = 0 then some ((.inl 3 : Nat ⊕ Int32), r_9.2) else (fc_X8_current r_9.2).bind fun r_10 => (dr r_10.2 7 r_10.1).bind fun i_11 => (fc_X6_copy r_10.2 (some 0) (cR r_10.2 7 i_11 3)).bind fun r_12 => (fc_X11_follow r_12 (some (cn σ 8))).bind fun r_13 => some (.inr (cI r_13 4 0 2), r_13)) = if g.t.N = 80 ∧ sChd g.t q = none then some (.inl 2, σ1) else if sOwn g.t g.p 0 g.p.S h = true then (fc_X6_copy σ1 (some 0) (cR σ1 7 g.t.now 3)).bind (fun r_12 => (fc_X11_follow r_12 (some (cn σ 8))).bind fun r_13 => some (.inr (cI r_13 4 0 2), r_13)) else some (.inl 3, σ1) := by
    rw [dr1, Option.bind_some, e1, Option.bind_some, fc_needNode_s k1 k3 e3.2.2.1 (fun n a b => (k5 n a b).1) e3.2.2.2.2.2.2.1 h0 hcm e2, xb_ifN]
    by_cases zz : g.t.N = 80 ∧ sChd g.t q = none
    · rw [if_pos zz, if_pos zz]
    · rw [if_neg zz, if_neg zz, fc_current_s k3 e3.2.2.1 h0, Option.bind_some]
      show (fc_X5_isOwnedAt_2 3000 σ1 (nI h) (some g.t.now) (nI 0)).bind _ = _
      rw [fc_owned_l k3 e3.2.2.1 h0 hp e3.2.2.2.1 (h := h) (by omega) g.p.S 0 3000 (by omega) (by omega), Option.bind_some, bI_if]
      by_cases zo : sOwn g.t g.p 0 g.p.S h = true
      · rw [if_pos zo, if_pos zo]
        show (fc_X8_current σ1).bind _ = _
        rw [fc_current_s k3 e3.2.2.1 h0, Option.bind_some, e3.2.2.1.dn hn, Option.bind_some]
      · rw [if_neg zo, if_neg zo]
  refine (congrArg (fun z => Alk [4, 2, 3] g z _) ecl).mpr ?_
  rw [em25]
  have own : ¬ (g.t.N = 80 ∧ sChd g.t q = none) → Alk [4, 2, 3] g (if sOwn g.t g.p 0 g.p.S h = true then (fc_X6_copy σ1 (some 0) (cR σ1 7 g.t.now 3)).bind (fun r_12 => (fc_X11_follow r_12 (some (cn σ 8))).bind fun r_13 => some (.inr (cI r_13 4 0 2), r_13)) else some (.inl 3, σ1)) (fm_read_59 (mI τ 0 (nI 0)) (nI h) (oI (sChd g.t q))) := by
    intro hfull
    have hN : sChd g.t q = none → g.t.N < 80 := fun e => by
      have : ¬ g.t.N = 80 := fun z => hfull ⟨z, e⟩
      omega
    unfold fm_read_59
    rw [show fm_isOwnedNow (mI τ 0 (nI 0)) (nI h) = fm_isOwnedNow_4 3000 (mI τ 0 (nI 0)) (nI h) (bI false) (nI 0) from rfl, fm_owned_l k3 n3 h0 hp n6' (h := h) (by omega) g.p.S 0 false 3000 (by omega) (by omega), Option.bind_some, Bool.false_or, bI_if]
    refine Alk.ite (fun zo => ?_) fun zo => Alk.x' (c := 3) (j := 2) (v := 0) (τ2 := mI τ 0 (nI 3)) hok e3 (hMR.th _) rfl (bad2 _ 3 (by omega) (by omega)) (mI_at _ _ _) rfl
    obtain ⟨-, σ2, c1, c2, c3, c4⟩ := copyHere e3 h0 hok
    rw [c1, Option.bind_some]
    have hst := (k3.2.2.1 _ hn).1
    have hrp : rplQ g.w g.t (g.t.st g.t.now) q := ⟨fun z => by omega, fun _ => rfl, fun z => by omega⟩
    obtain ⟨σ3, d1, d2, -⟩ := CR.fol c3 h0 hok hcm (fun _ _ b hb => by rw [hq] at hb; cases hb; omega) (e2.fr c4 (by simp [cSc])) hst c2 hN
    rw [d1, Option.bind_some]
    have hok' := hok.fol h0 hN hcm (fun _ _ b hb => by rw [hq] at hb; cases hb; exact hh) hrp (by omega)
    have ans := d2.2.2.1.1.1
    have hsb : sBes g.w g.p.te q = g.p.te h := by rw [hq]; rfl
    have efin : ∃ τ3, fm_read_72 (mI τ 0 (nI 0)) (nI h) (oI (sChd g.t q)) 0 = some (nI (sFol g.w g.p.te g.t (g.t.st g.t.now) q).now, τ3) ∧ τ3.1 0 = nI 0 ∧ MR τ3 (g.w, g.l, sFol g.w g.p.te g.t (g.t.st g.t.now) q, g.p) := by
      unfold fm_read_72
      rw [show fm_isWrong (mI τ 0 (nI 0)) 0 = fm_isWrong (mI τ 0 (nI 0)) (nI 0) from rfl, right_s, mI_twice]
      cases e : sChd g.t q with
      | none =>
        obtain ⟨τ2, t1, t2, t3, t4⟩ := fm_takesUp_s k1 n1' (show g.t.now < 80 by omega) (n3.2 _ hn).2.2
        have hM2 : MR τ2 g := hMR0.fr t4 (by decide)
        have i12 : ¬ (nI h < 0 ∨ 12 ≤ (nI h).toNatClampNeg) := fun z => (jIn (show h < 12 by omega) (by omega)).mp z
        have e44 : τ2.2.2.2 44 h = g.p.te h := hM2.2.2.2.2.2.2.2.1 h (by omega)
        have hM3 : MR (mJ τ2 39 (g.p.te h)) g := hM2.fr (mFr.J (k := 39) (List.mem_singleton.mpr rfl)) (by decide)
        obtain ⟨τ4, y1, y2, y3, y4, -⟩ := MR.come (s := g.t.st g.t.now) (q := q) hM3 h0 hok t2 hst (hN e) hcm (fun z => by omega) (by rw [hsb]; rfl) e
        have hk : kdQ q.1 = 2 := by rw [hq1]; rfl
        rw [hk, if_neg (by omega), show oI q.2.1 = nI h by rw [hq]; rfl] at y1
        refine ⟨τ4, ?_, ?_, y2⟩
        · show (if nI 0 = 0 then (if oI none = (-1 : Int32) then (fm_takesUp (mI τ 0 (nI 0)) ((mI τ 0 (nI 0)).1 34)).bind _ else _) else _) = _
          rw [if_pos (show nI 0 = 0 from rfl), if_pos (show oI none = (-1 : Int32) from rfl), n3.1.2.1, t1, Option.bind_some, if_neg i12, jCl (by omega), e44, show (2 : Int32) = nI 2 from rfl, y1, Option.bind_some, y4, fol_now, e]
        · rw [(y3 0 (by decide)).1]
          show τ2.1 0 = _
          rw [(t4 0 (by decide)).1]
          exact mI_at _ _ _
      | some n =>
        have hnn := sChd_lt h0 e
        refine ⟨mI (mI τ 0 (nI 0)) 34 (nI n), ?_, by rw [mI_ne _ _ (by decide)]; exact mI_at _ _ _, hMR0.went e⟩
        show (if nI 0 = 0 then (if oI (some n) = (-1 : Int32) then _ else some ((mI (mI τ 0 (nI 0)) 34 (oI (some n))).1 34, mI (mI τ 0 (nI 0)) 34 (oI (some n)))) else _) = _
        rw [if_pos (show nI 0 = 0 from rfl), if_neg (show ¬ oI (some n) = (-1 : Int32) from fun z => (jM1 (a := n) (by omega)).mp z), mI_at, fol_now, e]
        rfl
    obtain ⟨τ3, y1, y2, y3⟩ := efin
    exact ⟨_, .inr _, σ3, _, τ3, rfl, y1, by rw [y2, ans]; exact Agr.v, hok', d2, y3⟩
  cases e : sChd g.t q with
  | none =>
    rw [e] at own
    have e33 : (mI τ 0 (nI 0)).1 33 = nI g.t.N := n3.1.1
    rw [if_pos (show oI none = (-1 : Int32) from rfl), e33]
    by_cases zf : g.t.N = 80
    · rw [if_pos ⟨zf, rfl⟩, if_pos (show nI g.t.N = (80 : Int32) by rw [zf]; rfl)]
      exact Alk.x' (c := 2) (j := 1) (v := 0) (τ2 := mI τ 0 (nI 2)) hok e3 (hMR.th _) rfl (bad2 _ 2 (by omega) (by omega)) (mI_at _ _ _) rfl
    · rw [if_neg (fun z => zf z.1), if_neg (show ¬ nI g.t.N = (80 : Int32) from fun z => zf ((jEq (b := 80) (by omega) (by omega)).mp z))]
      exact own (fun z => zf z.1)
  | some n =>
    rw [e] at own
    have hnn := sChd_lt h0 e
    rw [if_neg (fun z => by cases z.2), if_neg (show ¬ oI (some n) = (-1 : Int32) from fun z => (jM1 (a := n) (by omega)).mp z)]
    exact own (fun z => by cases z.2)
end M20
