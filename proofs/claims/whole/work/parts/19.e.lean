/-! The index's calls: isKnown, learnt, postings, posting, rare. -/
section E19
variable {g : Gm} {σ : cS} {τ : mS}
theorem fc_needWord_s {w : Wd} (hw : Wd.ok w) (hW : CWd σ w) (v : Int32) : fc_X11_needWord σ v = some (if vIn v w.W = true then .inr () else .inl 4, σ) := by
  unfold fc_X11_needWord
  rw [fc_hasWord_v hw hW, Option.bind_some, bI_if]
  by_cases q : vIn v w.W = true
  · rw [if_pos q, if_pos q]
  · rw [if_neg q, if_neg q]
theorem fm_isNoWord_s {w : Wd} {t : Tr} (hw : Wd.ok w) (hW : MWd τ w) (hM : MTr τ w t) (v : Int32) : fm_isNoWord τ v = some (if vIn v w.W = true then (if t.N = 0 then (nI 1, mI τ 0 (nI 2)) else (nI 0, mI τ 0 (nI 0))) else (nI 1, mI τ 0 (nI 1))) := by
  unfold fm_isNoWord fm_isNoWord_25
  rw [fm_isWord_s hw hW, Option.bind_some, bI_if]
  by_cases q : vIn v w.W = true
  · rw [if_pos q, if_pos q]
    show (if τ.1 20 = 0 then _ else _) = _
    rw [hM.1.2.2]
    by_cases z : t.N = 0
    · rw [if_pos (show bI (decide (0 < t.N)) = 0 by rw [decide_eq_false (by omega)]; rfl), if_pos z, show (2 : Int32) = nI 2 from rfl, wrong_s τ (by omega) (by omega)]
      exact if_pos (show nI 1 &&& 1 = nI 1 by decide)
    · rw [if_neg (show ¬ bI (decide (0 < t.N)) = 0 by rw [decide_eq_true (by omega)]; decide), if_neg z, show (0 : Int32) = nI 0 from rfl, right_s]
      exact if_pos (show nI 0 &&& 1 = nI 0 by decide)
  · rw [if_neg q, if_neg q, show (1 : Int32) = nI 1 from rfl, wrong_s τ (by omega) (by omega)]
    exact if_pos (show nI 1 &&& nI 1 = nI 1 by decide)
/-- a call that wants a word, and play begun -/
theorem Alk.word {ex : List Nat} {f : Option ((Nat ⊕ Int32) × cS)} {m : Option (Int32 × mS)} {F : Unit → cS → Option ((Nat ⊕ Int32) × cS)} {G : Int32 × mS → Option (Int32 × mS)} {x v : Int32} (hR : Rel g σ τ) (h1 : ex[0]? = some 4) (h2 : ex[1]? = some 2) (hf : f = xb (fc_X11_needWord σ x) fun _ u => xb (fc_X11_needPlay u) F) (hm : m = (fm_isNoWord τ x).bind G) (hz : ∀ τ', G (nI 1, τ') = some (v, τ')) (h : 0 < g.t.N → vIn x g.w.W = true → Alk ex g (F () σ) (G (nI 0, mI τ 0 (nI 0)))) : Alk ex g f m := by
  rw [hf, hm, fc_needWord_s hR.1.1 hR.2.1.1, fm_isNoWord_s hR.1.1 hR.2.2.1 hR.2.2.2.2.1, Option.bind_some]
  by_cases q : vIn x g.w.W = true
  · rw [if_pos q, if_pos q]
    show Alk ex g (xb (fc_X11_needPlay σ) F) _
    rw [fc_needPlay_s hR.2.1.2.2.1 hR.1.2.2.1.1.1]
    by_cases z : g.t.N = 0
    · rw [if_pos z, if_pos z]
      exact Alk.x (j := 1) hR rfl (hz _) h2
    · rw [if_neg z, if_neg z]
      exact h (by omega) q
  · rw [if_neg q, if_neg q]
    exact Alk.x (j := 0) hR rfl (hz _) h1
theorem meth_isKnown (hR : Rel g σ τ) (v : Int32) : Alk [4, 2] g (fc_X11_isKnown σ v) (fm_isKnown τ v) := by
  have hC := hR.2.1.2.2.1
  have ht := hR.1.2.2.1
  have hW40 := hR.1.1.1.1
  have hM : MTr (mI τ 0 (nI 0)) g.w g.t := hR.2.2.2.2.1.fr (mFr.I (List.mem_singleton.mpr rfl)) (by decide)
  have hz : ∀ τ' : mS, (if ((nI 1, τ') : Int32 × mS).1 = 0 then ((fm_knownAt τ' (τ'.1 34)).bind fun r_2 => (fm_has r_2.1 v).bind fun r_3 => if r_3 = 0 then fm_isKnown_27 r_2.2 else fm_isKnown_28 r_2.2 1) else fm_isKnown_27 τ') = some (0, τ') := fun τ' => by
    rw [if_neg (show ¬ nI 1 = 0 from nz1)]
    unfold fm_isKnown_27 fm_isKnown_28
    rw [if_pos (show (0 : Int32) &&& 1 = 0 by decide)]
  refine Alk.word (v := 0) hR rfl rfl rfl rfl hz fun h0 hv => ?_
  have hn := ht.1.2.1 h0
  obtain ⟨e, h⟩ := vIn_of (by omega) hv
  refine Alk.v (v := bI (sHas (sKn g.t g.t.now) v.toNatClampNeg)) (ks := [0]) (τ' := mI τ 0 (nI 0)) hR ?_ ?_ (mI_at _ _ _) (mFr.I (by decide)) (by decide)
  · rw [fc_current_s ht hC h0, Option.bind_some, hC.dn hn, Option.bind_some, fc_wordsOfPath_s ht hC hn, Option.bind_some]
    have g2 := fc_includes_s (σ := σ) (s := sKn g.t g.t.now) (show v.toNatClampNeg < 40 by omega)
    rw [← e] at g2
    rw [g2, Option.bind_some, if_neg (fun h => h (bI_z _))]
  · have g2 := fm_has_s (s := sKn g.t g.t.now) (show v.toNatClampNeg < 64 by omega)
    rw [← e] at g2
    show (if nI 0 = 0 then ((fm_knownAt (mI τ 0 (nI 0)) ((mI τ 0 (nI 0)).1 34)).bind fun r_2 => (fm_has r_2.1 v).bind fun r_3 => if r_3 = 0 then fm_isKnown_27 r_2.2 else fm_isKnown_28 r_2.2 1) else _) = _
    rw [if_pos (show nI 0 = 0 from rfl), hM.1.2.1, fm_knownAt_s ht hM hn, Option.bind_some, g2, Option.bind_some, bI_if]
    unfold fm_isKnown_27 fm_isKnown_28
    cases sHas (sKn g.t g.t.now) v.toNatClampNeg with
    | false => exact (if_neg Bool.false_ne_true).trans (if_pos (show (0 : Int32) &&& 1 = 0 by decide))
    | true => exact (if_pos rfl).trans (if_pos (show (1 : Int32) &&& 1 = 1 by decide))
theorem meth_learnt (hR : Rel g σ τ) (v : Int32) : Alk [4, 2, 5] g (fc_X11_learnt σ v) (fm_learnt τ v) := by
  have hC := hR.2.1.2.2.1
  have ht := hR.1.2.2.1
  have h80 := ht.1.1
  have hW40 := hR.1.1.1.1
  have hM : MTr (mI τ 0 (nI 0)) g.w g.t := hR.2.2.2.2.1.fr (mFr.I (List.mem_singleton.mpr rfl)) (by decide)
  have twice : ∀ k, mI (mI τ 0 (nI 0)) 0 k = mI τ 0 k := fun k => by
    show (upd (upd τ.1 0 (nI 0)) 0 k, τ.2) = (upd τ.1 0 k, τ.2)
    congr 1
    funext j
    unfold upd
    split <;> rfl
  refine Alk.word (v := 0) hR rfl rfl rfl rfl (fun τ' => if_neg nz1) fun h0 hv => ?_
  have hn := ht.1.2.1 h0
  obtain ⟨e, h⟩ := vIn_of (by omega) hv
  have g2 := fm_has_s (s := sKn g.t g.t.now) (show v.toNatClampNeg < 64 by omega)
  have g3 := fc_firstToShow_s ht hC (show v.toNatClampNeg < 40 by omega) hn
  rw [← e] at g2 g3
  show Alk [4, 2, 5] g ((fc_X8_current σ).bind fun r_3 => (dr r_3.2 7 r_3.1).bind fun i_4 => (fc_X2_firstToShow r_3.2 r_3.1 v).bind fun r_5 => if r_5.1 = (-1 : Int32) then some (.inl 5, r_5.2) else some (.inr r_5.1, r_5.2)) (if nI 0 = 0 then ((fm_knownAt (mI τ 0 (nI 0)) ((mI τ 0 (nI 0)).1 34)).bind fun r_2 => (fm_has r_2.1 v).bind fun r_3 => if r_3 = 0 then fm_learnt_29 r_2.2 v 3 else fm_learnt_29 r_2.2 v 0) else fm_learnt_35 (mI τ 0 (nI 0)))
  rw [fc_current_s ht hC h0, Option.bind_some, hC.dn hn, Option.bind_some, g3, Option.bind_some, if_pos (show nI 0 = 0 from rfl), hM.1.2.1, fm_knownAt_s ht hM hn, Option.bind_some, g2, Option.bind_some, bI_if]
  unfold fm_learnt_29
  by_cases q : sHas (sKn g.t g.t.now) v.toNatClampNeg = true
  · obtain ⟨k1, k2⟩ := sFst_mem (t := g.t) v.toNatClampNeg (sPath g.t g.t.now) (some g.t.now) ((sKn_has _ _ _).mp q)
    have k1 : sFst g.t v.toNatClampNeg g.t.now (some g.t.now) = sFst g.t v.toNatClampNeg g.t.now none := k1
    have k2 : (sFst g.t v.toNatClampNeg g.t.now (some g.t.now)).isSome = true := k2
    obtain ⟨m, hm⟩ := Option.isSome_iff_exists.mp k2
    rw [if_pos q, ← k1, hm, show (0 : Int32) = nI 0 from rfl, right_s, twice]
    have hm0 : ¬ oI (some m) = (-1 : Int32) := fun h => by
      have : ∀ (l : List Nat) (a : Option Nat), (∀ x ∈ l, x < 100000) → (∀ b, a = some b → b < 100000) → ∀ b, l.foldl (fun a m => if sHas (g.t.sh m) v.toNatClampNeg = true then some m else a) a = some b → b < 100000 := by
        intro l
        induction l with
        | nil => intro a _ ha b hb; exact ha b hb
        | cons x l ih =>
          intro a hl ha b hb
          refine ih _ (fun y hy => hl y (List.mem_cons_of_mem _ hy)) (fun c hc => ?_) b hb
          have hc : (if sHas (g.t.sh x) v.toNatClampNeg = true then some x else a) = some c := hc
          split at hc
          · have := Option.some.inj hc
            rw [← this]
            exact hl x List.mem_cons_self
          · exact ha c hc
      have hb := this (sPath g.t g.t.now) (some g.t.now) (fun x hx => by
        rcases mem_dep ht _ hn hx with h | h
        · omega
        · omega) (fun b hb => by have := Option.some.inj hb; omega) m hm
      exact (jM1 hb).mp h
    rw [if_neg hm0]
    refine Alk.v (v := oI (some m)) (ks := [0]) (τ' := mI τ 0 (nI 0)) hR rfl ?_ (mI_at _ _ _) (mFr.I (by decide)) (by decide)
    show (if nI 0 = nI 0 then fm_learnt_47 3000 (mI τ 0 (nI 0)) v ((mI τ 0 (nI 0)).1 34) ((mI τ 0 (nI 0)).1 34) else _) = _
    have g4 := fm_learnt_l ht hM (show v.toNatClampNeg < 64 by omega) g.t.now g.t.now 3000 hn (by omega)
    rw [← e, hm] at g4
    rw [if_pos rfl, hM.1.2.1]
    exact g4
  · have kn : sFst g.t v.toNatClampNeg g.t.now none = none := by
      have gen : ∀ (l : List Nat) (a : Option Nat), (∀ m ∈ l, ¬ sHas (g.t.sh m) v.toNatClampNeg = true) → l.foldl (fun a m => if sHas (g.t.sh m) v.toNatClampNeg = true then some m else a) a = a := by
        intro l
        induction l with
        | nil => intro a _; rfl
        | cons y l ih =>
          intro a h
          rw [List.foldl_cons, if_neg (h y List.mem_cons_self), ih a (fun m hm => h m (List.mem_cons_of_mem _ hm))]
      exact gen _ _ (fun m hm hs => q ((sKn_has _ _ _).mpr ⟨m, hm, hs⟩))
    rw [if_neg q, kn, if_pos (show oI none = (-1 : Int32) from rfl), show (3 : Int32) = nI 3 from rfl, wrong_s _ (by omega) (by omega), twice]
    refine Alk.x (c := 5) (j := 2) (v := 0) hR rfl ?_ rfl
    exact if_neg nz1
end E19
