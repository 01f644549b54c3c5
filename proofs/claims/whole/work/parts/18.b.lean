/-! A further node: the reference's side, whole. -/
def tAdd (t : Tr) (s : St) (sg : Int64) (q : Cm) : Tr := ((t.N + 1, t.N), (fun n => if n = t.N then t.now else t.par n), (fun n => if n = t.N then s else t.st n), (fun n => if n = t.N then sg else t.sh n), (fun n => if n = t.N then q else t.cm n), fun n => if n = t.N then [] else t.lb n)
section tA
variable (t : Tr) (s : St) (sg : Int64) (q : Cm)
theorem tAdd_N : (tAdd t s sg q).N = t.N + 1 := rfl
theorem tAdd_now : (tAdd t s sg q).now = t.N := rfl
theorem tAdd_par (n : Nat) : (tAdd t s sg q).par n = if n = t.N then t.now else t.par n := rfl
theorem tAdd_st (n : Nat) : (tAdd t s sg q).st n = if n = t.N then s else t.st n := rfl
theorem tAdd_sh (n : Nat) : (tAdd t s sg q).sh n = if n = t.N then sg else t.sh n := rfl
theorem tAdd_cm (n : Nat) : (tAdd t s sg q).cm n = if n = t.N then q else t.cm n := rfl
theorem tAdd_lb (n : Nat) : (tAdd t s sg q).lb n = if n = t.N then [] else t.lb n := rfl
end tA
theorem tAdd_ok {w : Wd} {t : Tr} {s : St} {sg : Int64} {q : Cm} (ht : Tr.ok w t) (hN : t.N < 80) (hs : St.ok w s) (hg : wset w.W sg) : Tr.ok w (tAdd t s sg q) := by
  refine ⟨⟨by rw [tAdd_N]; omega, fun _ => by rw [tAdd_N, tAdd_now]; omega, fun h => by rw [tAdd_N] at h; omega⟩, ?_, ?_, ?_⟩
  · intro n h0 hn
    rw [tAdd_N] at hn
    rw [tAdd_par]
    by_cases e : n = t.N
    · rw [if_pos e, e]
      exact ht.1.2.1 (by omega)
    · rw [if_neg e]
      exact ht.2.1 n h0 (by omega)
  · intro n hn
    rw [tAdd_N] at hn
    rw [tAdd_st, tAdd_sh, tAdd_lb]
    by_cases e : n = t.N
    · rw [if_pos e, if_pos e, if_pos e]
      exact ⟨hs, hg, isLb_nil⟩
    · rw [if_neg e, if_neg e, if_neg e]
      exact ht.2.2.1 n (by omega)
  · intro n m hn hm
    rw [tAdd_N] at hn hm
    rw [tAdd_lb, tAdd_lb]
    by_cases e : n = t.N
    · rw [if_pos e]
      exact fun _ h => absurd rfl h
    · rw [if_neg e]
      by_cases e2 : m = t.N
      · rw [if_pos e2]
        exact fun h h2 => absurd h h2
      · rw [if_neg e2]
        exact ht.2.2.2 n m (by omega) (by omega)
theorem own_lt {n m k i : Nat} (h : m < n) (hi : (k ∈ [21, 25, 27, 28, 29, 30, 32] ∧ i = m) ∨ (k ∈ [22, 23, 24] ∧ i < 12 * m + 12) ∨ (k = 26 ∧ i < 30 * m + 30) ∨ (k = 31 ∧ i < 8 * m + 8)) : ¬ ownN n k i := by
  intro z
  unfold ownN at z
  rcases hi with ⟨a, b⟩ | ⟨a, b⟩ | ⟨a, b⟩ | ⟨a, b⟩ <;> rcases z with ⟨c, d⟩ | ⟨c, d, e⟩ | ⟨c, d, e⟩ | ⟨c, d, e⟩ <;> (try simp at a) <;> (try simp at c) <;> omega
section B18
variable {w : Wd} {t : Tr} {l : List Nat} {s : St} {τ : mS}
/-- node facts -/
def MNs (τ : mS) (w : Wd) (t : Tr) : Prop := ∀ n, n < t.N → τ.2.2.1 25 n = (if n = 0 then -nI 1 else nI (t.par n)) ∧ τ.2.2.2 30 n = t.sh n ∧ MNd τ w.T n (t.st n)
theorem MNs.nx {τ' : mS} (h : MNs τ w t) (hx : mNx t.N τ τ') (hT : w.T ≤ 12) : MNs τ' w t := by
  intro n hn
  obtain ⟨h1, h2, h3, h4⟩ := h n hn
  have g := fun k i hi => hx.2.2 k i (own_lt hn hi)
  refine ⟨by rw [(g 25 n (Or.inl ⟨by decide, rfl⟩)).1]; exact h1, by rw [(g 30 n (Or.inl ⟨by decide, rfl⟩)).2]; exact h2, by rw [(g 21 n (Or.inl ⟨by decide, rfl⟩)).1]; exact h3, fun x hxT => ?_⟩
  rw [(g 22 (12 * n + x) (Or.inr (Or.inl ⟨by decide, by omega⟩))).1, (g 23 (12 * n + x) (Or.inr (Or.inl ⟨by decide, by omega⟩))).1, (g 24 (12 * n + x) (Or.inr (Or.inl ⟨by decide, by omega⟩))).1]
  exact h4 x hxT
theorem MCm.nx {τ' : mS} {N n : Nat} {q : Cm} (h : MCm τ w n q) (hx : mNx N τ τ') (hn : n < N) : MCm τ' w n q := by
  have g := fun k i hi => hx.2.2 k i (own_lt hn hi)
  obtain ⟨h1, h2, h3⟩ := h
  refine ⟨by rw [(g 28 n (Or.inl ⟨by decide, rfl⟩)).1]; exact h1, by rw [(g 29 n (Or.inl ⟨by decide, rfl⟩)).1]; exact h2, fun hq => ?_⟩
  obtain ⟨a, b, c, d⟩ := h3 hq
  refine ⟨by rw [(g 27 n (Or.inl ⟨by decide, rfl⟩)).1]; exact a, b, c, fun k hk => ?_⟩
  rw [(g 26 (30 * n + k) (Or.inr (Or.inr (Or.inl ⟨rfl, by omega⟩)))).1]
  exact d k hk
theorem MNm.nx {τ' : mS} (h : MNm τ t) (hx : mNx t.N τ τ') : MNm τ' t := by
  intro n hn
  have g := fun k i hi => hx.2.2 k i (own_lt hn hi)
  obtain ⟨h1, h2⟩ := h n hn
  refine ⟨fun e => by rw [(g 31 (8 * n) (Or.inr (Or.inr (Or.inr ⟨rfl, by omega⟩)))).1]; exact h1 e, fun e k hk => ?_⟩
  rw [(g 31 (8 * n + k) (Or.inr (Or.inr (Or.inr ⟨rfl, by omega⟩)))).1]
  exact h2 e k hk
theorem MNs.fr {ks : List Nat} {τ' : mS} (h : MNs τ w t) (hf : mFr ks τ τ') (hk : ∀ k ∈ ([21, 22, 23, 24, 25, 30] : List Nat), k ∉ ks) : MNs τ' w t := by
  intro n hn
  obtain ⟨h1, h2, h3⟩ := h n hn
  exact ⟨by rw [(hf 25 (hk 25 (by decide))).2.2.1]; exact h1, by rw [(hf 30 (hk 30 (by decide))).2.2.2]; exact h2, h3.fr hf (fun k hk' => hk k (by revert k; decide))⟩
theorem MCm.fr {ks : List Nat} {τ' : mS} {n : Nat} {q : Cm} (h : MCm τ w n q) (hf : mFr ks τ τ') (hk : ∀ k ∈ ([26, 27, 28, 29] : List Nat), k ∉ ks) : MCm τ' w n q := by
  unfold MCm
  rw [(hf 26 (hk 26 (by decide))).2.2.1, (hf 27 (hk 27 (by decide))).2.2.1, (hf 28 (hk 28 (by decide))).2.2.1, (hf 29 (hk 29 (by decide))).2.2.1]
  exact h
theorem MNm.fr {ks : List Nat} {τ' : mS} (h : MNm τ t) (hf : mFr ks τ τ') (hk : 31 ∉ ks) : MNm τ' t := by
  unfold MNm
  rw [(hf 31 hk).2.2.1]
  exact h
theorem MCs.fr {ks : List Nat} {τ' : mS} (h : MCs τ w t) (hf : mFr ks τ τ') (hk : ∀ k ∈ ([26, 27, 28, 29] : List Nat), k ∉ ks) : MCs τ' w t := fun n h0 hn => ⟨(h n h0 hn).1, (h n h0 hn).2.fr hf hk⟩
/-- the state that a further node gets -/
def sNew (w : Wd) (t : Tr) (s : St) : St := if t.N = 0 then s else sBurn w s
def fCm : List Nat := [21, 22, 23, 24, 25, 26, 27, 28, 29, 30, 31, 32, 33, 34, 37, 38]
theorem fm_comes_s (hw : Wd.ok w) (hW : MWd τ w) (hl : isTx l) (hX : MTx τ l) (ht : Tr.ok w t) (hs : St.ok w s) (hm : MSt τ w.T s) (hN : t.N < 80) (h33 : τ.1 33 = nI t.N) (h34 : τ.1 34 = nI t.now) (hn : MNs τ w t) (hc : MCs τ w t) (hb : MNm τ t) {q : Cm} {sg : Int64} (hsg : sg = (τ.2.1 39 ||| sShown w (sNew w t s))) (hq : 0 < t.N → cmQ w q ∧ (q.1 < 12 → sText w q = l)) :
    ∃ τ', fm_comes τ (nI (kdQ q.1)) (if q.1 < 12 then nI 0 else oI q.2.1) = some τ' ∧ (τ'.1 33 = nI (t.N + 1) ∧ τ'.1 34 = nI t.N) ∧ MNs τ' w (tAdd t (sNew w t s) sg q) ∧ MCs τ' w (tAdd t (sNew w t s) sg q) ∧ MNm τ' (tAdd t (sNew w t s) sg q) ∧ mFr fCm τ τ' ∧ ∀ i, τ'.2.2.1 32 i = if i = t.N then -nI 1 else τ.2.2.1 32 i := by
  have hT : w.T ≤ 12 := hw.1.2.2.1
  -- behind the burning
  have core : ∀ (τ1 : mS) (s' : St), s' = sNew w t s → St.ok w s' → MSt τ1 w.T s' → mFr [37, 38] τ τ1 → fm_comes τ (nI (kdQ q.1)) (if q.1 < 12 then nI 0 else oI q.2.1) = fm_comes_11 τ1 (nI (kdQ q.1)) (if q.1 < 12 then nI 0 else oI q.2.1) → ∃ τ', fm_comes τ (nI (kdQ q.1)) (if q.1 < 12 then nI 0 else oI q.2.1) = some τ' ∧ (τ'.1 33 = nI (t.N + 1) ∧ τ'.1 34 = nI t.N) ∧ MNs τ' w (tAdd t s' sg q) ∧ MCs τ' w (tAdd t s' sg q) ∧ MNm τ' (tAdd t s' sg q) ∧ mFr fCm τ τ' ∧ ∀ i, τ'.2.2.1 32 i = if i = t.N then -nI 1 else τ.2.2.1 32 i := by
    intro τ1 s' hs' hok hm1 hf1 he
    have hW1 := hW.fr hf1 (by decide)
    have hX1 := hX.fr hf1 (by decide) (by decide)
    have a33 : τ1.1 33 = nI t.N := by rw [(hf1 33 (by decide)).1]; exact h33
    have a34 : τ1.1 34 = nI t.now := by rw [(hf1 34 (by decide)).1]; exact h34
    have a39 : τ1.2.1 39 = τ.2.1 39 := (hf1 39 (by decide)).2.1
    have x1 : ¬ 80 ≤ t.N := by omega
    have c1 : (nI t.N).toNatClampNeg = t.N := jCl (by omega)
    have y : (nI t.N < (0 : Int32) ∨ False) = False := by
      rw [n0, jLt (by omega) (by omega)]
      simp
    have o21 : ownN t.N 21 t.N := Or.inl ⟨by decide, rfl⟩
    have hx0 : mNx t.N τ1 (mA τ1 21 t.N (nI s'.rm)) := mNx.A o21
    have e11 : fm_comes_11 τ1 (nI (kdQ q.1)) (if q.1 < 12 then nI 0 else oI q.2.1) = fm_comes_29 3000 (mA τ1 21 t.N (nI s'.rm)) (nI (kdQ q.1)) (if q.1 < 12 then nI 0 else oI q.2.1) (nI t.N) (nI 0) := by
      have e33 : (mA τ1 21 t.N (nI s'.rm)).1 33 = nI t.N := a33
      unfold fm_comes_11
      simp only [a33, c1, x1, y, if_false, hm1.1, e33]
      rfl
    obtain ⟨τ2, g1, g2, g3, ⟨g4, g5, g6, g7, g8, g9, g10⟩, g11⟩ := fm_comes_l hw hl hok hN (how := nI (kdQ q.1)) (num := if q.1 < 12 then nI 0 else oI q.2.1) (p := t.now) (sg := τ.2.1 39) (fun h => ht.1.2.1 h) w.T 0 3000 (mA τ1 21 t.N (nI s'.rm)) (by omega) (by omega) (hW1.fr hx0.fr (by decide)) (hm1.fr hx0.fr (by decide)) (hX1.fr hx0.fr (by decide) (by decide)) a33 a34 a39 (by rw [mA_at, if_pos rfl]) (fun y hy => by omega)
    have hx := hx0.tr g2
    have hfr : mFr [33, 34] τ2 (mI (mI τ2 33 (nI (t.N + 1))) 34 (nI t.N)) := (mFr.I (by decide)).tr (mFr.I (by decide))
    have hall : mFr fCm τ (mI (mI τ2 33 (nI (t.N + 1))) 34 (nI t.N)) := ((hf1.wk (by decide)).tr (hx.fr.wk (by decide))).tr (hfr.wk (by decide))
    refine ⟨_, by rw [he, e11, g1], ⟨?_, ?_⟩, ?_, ?_, ?_, hall, ?_⟩
    · rw [mI_ne _ _ (by decide), mI_at]
    · rw [mI_at]
    · have hold := ((hn.fr hf1 (by decide)).nx hx hT).fr hfr (by decide)
      intro n hnN
      rw [tAdd_N] at hnN
      rw [tAdd_par, tAdd_sh, tAdd_st]
      by_cases e : n = t.N
      · rw [if_pos e, if_pos e, if_pos e, e]
        refine ⟨g4, ?_, g3⟩
        rw [hsg, ← hs']
        exact g10
      · rw [if_neg e, if_neg e, if_neg e]
        exact hold n (by omega)
    · intro n h0 hnN
      rw [tAdd_N] at hnN
      rw [tAdd_cm]
      by_cases e : n = t.N
      · rw [if_pos e, e]
        obtain ⟨q1, q2⟩ := hq (by omega)
        refine ⟨q1, g5, g6, fun h12 => ?_⟩
        have := hl.1
        rw [q2 h12]
        exact ⟨g7, by omega, fun c hc => by have := hl.2 c hc; omega, g11⟩
      · rw [if_neg e]
        obtain ⟨k1, k2⟩ := hc n h0 (by omega)
        exact ⟨k1, ((k2.fr hf1 (by decide)).nx hx (by omega)).fr hfr (by decide)⟩
    · have hold := ((hb.fr hf1 (by decide)).nx hx).fr hfr (by decide)
      intro n hnN
      rw [tAdd_N] at hnN
      rw [tAdd_lb]
      by_cases e : n = t.N
      · rw [if_pos e, e]
        exact ⟨fun _ => g9, fun h => absurd rfl h⟩
      · rw [if_neg e]
        exact hold n (by omega)
    · intro i
      show τ2.2.2.1 32 i = _
      by_cases e : i = t.N
      · rw [if_pos e, e]; exact g8
      · rw [if_neg e, (hx.2.2 32 i (fun z => by unfold ownN at z; simp at z; omega)).1, (hf1 32 (by decide)).2.2.1]
  have h33' := h33
  by_cases q0 : t.N = 0
  · have e : sNew w t s = s := if_pos q0
    rw [e]
    refine core τ s e.symm hs hm (mFr.rf _ _) ?_
    unfold fm_comes
    rw [h33, if_pos (by rw [q0]; decide)]
  · have e : sNew w t s = sBurn w s := if_neg q0
    obtain ⟨τ1, b1, b2, b3⟩ := fm_burns_s hw hW hs hm
    rw [e]
    refine core τ1 (sBurn w s) e.symm (sBurn_ok hs) b2 b3 ?_
    unfold fm_comes
    rw [h33, if_neg (show ¬ nI t.N ≤ 0 by rw [n0, jLe (by omega) (by omega)]; omega), b1, Option.bind_some]
end B18
