/-! the steps of a parse: both sides together -/
def PR (σ τ : St) (n L : Nat) (B : Nat → Nat) (k a b c d v : Nat) : Prop := TxR σ τ n L B ∧ TokR σ τ n L k a b c d v
/-- a fault of kind w at a -/
def FltP (σ τ : St) (w a : Nat) : Prop := σ.1 1 6 = nI w ∧ σ.1 1 7 = nI a ∧ τ.1 206 15 = nI w ∧ τ.1 206 16 = nI a ∧ a ≤ 940 ∧ 1 ≤ w ∧ w ≤ 4
abbrev CS : List Nat := [2, 3, 4, 5, 6, 7, 8, 9]
abbrev MS : List Nat := [4, 11, 12, 13, 14, 15, 16, 17, 18]
def Bad (σ τ : St) (x y : Option (Int32 × St)) : Prop := ∃ σ' τ' w a, x = some (nI 0, σ') ∧ y = some (nI 0, τ') ∧ FltP σ' τ' w a ∧ FK 1 CS σ σ' ∧ FK 206 MS τ τ'
/-- at a token; b0: how far the one before went -/
def AdvT (n L : Nat) (B : Nat → Nat) (b0 : Nat) (σ' τ' : St) : Prop := ∃ k a b c d v, PR σ' τ' n L B k a b c d v ∧ (k = 1 ∨ k = 2 ∨ k = 3 → b0 < b)
def Adv (σ τ : St) (n L : Nat) (B : Nat → Nat) (b0 : Nat) (σ' τ' : St) : Prop := AdvT n L B b0 σ' τ' ∧ FK 1 CS σ σ' ∧ FK 206 MS τ τ'
section Prims
variable {σ τ : St} {N n L k a b c d v : Nat} {B : Nat → Nat}
theorem p_next (hN : 1000 ≤ N) (h : PR σ τ n L B k a b c d v) (hk : k = 1 ∨ k = 2 ∨ k = 3) : ∃ σ' τ', f_X9_next N σ = some σ' ∧ f_X12_next N τ = some τ' ∧ FK 1 [2, 3, 4, 8, 9] σ σ' ∧ FK 206 [4, 11, 12, 13, 14, 17] τ τ' ∧ AdvT n L B b σ' τ' := by
  obtain ⟨hb, h9, h4⟩ := h.2.2.2.2 hk
  obtain ⟨σ', τ', k', a', b', c', d', v', e1, e2, f1, f2, ht, hl⟩ := nx hN h.1 hb h9 h4
  exact ⟨σ', τ', e1, e2, f1, f2, k', a', b', c', d', v', ⟨TxR_K h.1 f1 (by decide) f2 (by decide), ht⟩, hl⟩
theorem p_bad {w : Nat} (h : PR σ τ n L B k a b c d v) (hw : 1 ≤ w ∧ w ≤ 4) : ∃ σ' τ', f_X9_refuse (nI w) σ = some (nI 0, σ') ∧ f_X12_bad (nI w) τ = some (nI 0, τ') ∧ FltP σ' τ' w a ∧ FK 1 [6, 7] σ σ' ∧ FK 206 [15, 16] τ τ' := by
  obtain ⟨⟨h1, h2, h3, h4, h5, h6, h7⟩, g⟩ := h.2
  unfold f_X9_refuse f_X12_bad
  simp only [vl_q]
  have e1 : (sI σ 1 6 (nI w)).1 1 8 = nI a := by rw [sI1, if_pos rfl, if_neg (by decide)]; exact h4
  have e2 : (sI τ 206 15 (nI w)).1 206 12 = nI a := by rw [sI1, if_pos rfl, if_neg (by decide)]; exact h5
  rw [e1, e2]
  exact ⟨_, _, rfl, rfl, ⟨by rw [sI1, if_pos rfl, if_neg (by decide), sI1, if_pos rfl, if_pos rfl], by rw [sI1, if_pos rfl, if_pos rfl], by rw [sI1, if_pos rfl, if_neg (by decide), sI1, if_pos rfl, if_pos rfl], by rw [sI1, if_pos rfl, if_pos rfl], h2, hw⟩, (FK.rf.sI (by decide)).sI (by decide), (FK.rf.sI (by decide)).sI (by decide)⟩
theorem tok_2 (h : TokR σ τ n L k a b c d v) : (σ.1 1 2 = nI 2 ↔ k = 2) ∧ (τ.1 206 11 = nI 2 ↔ k = 2) := by
  obtain ⟨⟨h1, h2, h3, h4, h5, h6, h7⟩, g⟩ := h
  rw [h3, h7]
  refine ⟨nI_eq (by omega) (by decide), ?_⟩
  by_cases q : k = 0 ∧ L < n
  · rw [if_pos q, nI_eqq (by decide) (by decide)]; omega
  · rw [if_neg q]; exact nI_eq (by omega) (by decide)
theorem tok_3 (h : TokR σ τ n L k a b c d v) : (σ.1 1 2 = nI 3 ↔ k = 3) ∧ (τ.1 206 11 = nI 3 ↔ k = 3) := by
  obtain ⟨⟨h1, h2, h3, h4, h5, h6, h7⟩, g⟩ := h
  rw [h3, h7]
  refine ⟨nI_eq (by omega) (by decide), ?_⟩
  by_cases q : k = 0 ∧ L < n
  · rw [if_pos q, nI_eqq (by decide) (by decide)]; omega
  · rw [if_neg q]; exact nI_eq (by omega) (by decide)
theorem tok_1 (h : TokR σ τ n L k a b c d v) : (σ.1 1 2 = nI 1 ↔ k = 1) ∧ (τ.1 206 11 = nI 1 ↔ k = 1) := by
  obtain ⟨⟨h1, h2, h3, h4, h5, h6, h7⟩, g⟩ := h
  rw [h3, h7]
  refine ⟨nI_eq (by omega) (by decide), ?_⟩
  by_cases q : k = 0 ∧ L < n
  · rw [if_pos q, nI_eqq (by decide) (by decide)]; omega
  · rw [if_neg q]; exact nI_eq (by omega) (by decide)
theorem p_bad2 {w : Nat} {x y : Option (Int32 × St)} (h : PR σ τ n L B k a b c d v) (hw : 1 ≤ w ∧ w ≤ 4) (hx : ∀ s, f_X9_refuse (nI w) σ = some (nI 0, s) → x = some (nI 0, s)) (hy : ∀ s, f_X12_bad (nI w) τ = some (nI 0, s) → y = some (nI 0, s)) : Bad σ τ x y := by
  obtain ⟨σ', τ', e1, e2, f, g1, g2⟩ := p_bad h hw
  exact ⟨σ', τ', w, a, hx _ e1, hy _ e2, f, g1.mono (by decide), g2.mono (by decide)⟩
theorem PR_K {σ' τ' : St} {ks ls : List Nat} (h : PR σ τ n L B k a b c d v) (hF : FK 1 ks σ σ') (hk : ∀ x ∈ ks, x = 5 ∨ x = 7) (hG : FK 206 ls τ τ') (hl : ∀ x ∈ ls, x = 0 ∨ x = 2 ∨ x = 16 ∨ 18 ≤ x) : PR σ' τ' n L B k a b c d v :=
  ⟨TxR_K h.1 hF ⟨fun q => by have := hk _ q; omega, fun q => by have := hk _ q; omega, fun q => by have := hk _ q; omega, fun q => by have := hk _ q; omega⟩ hG ⟨fun q => by have := hl _ q; omega, fun q => by have := hl _ q; omega, fun q => by have := hl _ q; omega⟩, TokR_K h.2 hF (fun x q => by have := hk x q; omega) hG (fun x q => by have := hl x q; omega)⟩
theorem p_number {lo hi : Nat} (hN : 1000 ≤ N) (hl : lo ≤ hi) (hh : hi ≤ 1000) (h : PR σ τ n L B k a b c d v) : Bad σ τ (f_X9_takeNumber N (nI lo) (nI hi) σ) (f_X12_takes N (nI lo) (nI hi) τ) ∨ (k = 2 ∧ lo ≤ v ∧ v ≤ hi ∧ ∃ σ' τ', f_X9_takeNumber N (nI lo) (nI hi) σ = some (nI 1, σ') ∧ f_X12_takes N (nI lo) (nI hi) τ = some (nI 1, τ') ∧ Adv σ τ n L B b σ' τ' ∧ σ'.1 1 5 = nI v ∧ τ'.1 206 18 = nI v) := by
  obtain ⟨a1, a2⟩ := tok_2 h.2
  unfold f_X9_takeNumber f_X9_atNumber f_X12_takes
  simp only [vl_q]
  by_cases k2 : k = 2
  · obtain ⟨v9, c4, m14⟩ := h.2.2.2.1 (Or.inl k2)
    rw [if_pos (a1.mpr k2), if_pos (a2.mpr k2), c4, m14, m_isIn, bp_q, if_bI, jn_q, nI_toInt (by omega), nI_toInt (by omega), nI_toInt (by omega), if_ltq (by omega) (by omega), if_leq (by omega) (by omega)]
    by_cases q : lo ≤ v ∧ v ≤ hi
    · rw [if_neg (show ¬ v < lo by omega), if_pos q.2, bd_q, if_neg (by decide), if_pos (decide_eq_true (show (lo : Int) ≤ v ∧ (v : Int) ≤ hi by omega))]
      have f1 : FK 1 [5] σ (sI σ 1 5 (nI v)) := FK.rf.sI (by decide)
      have f2 : FK 206 [18] τ (sI τ 206 18 (nI v)) := FK.rf.sI (by decide)
      have h' : PR (sI σ 1 5 (nI v)) (sI τ 206 18 (nI v)) n L B k a b c d v := PR_K h f1 (by decide) f2 (by decide)
      obtain ⟨σ', τ', e1, e2, g1, g2, ad⟩ := p_next hN h' (Or.inr (Or.inl k2))
      rw [c4, e1, e2, bp_q, bp_q]
      refine Or.inr ⟨k2, q.1, q.2, σ', τ', rfl, rfl, ⟨ad, (f1.mono (by decide)).trans (g1.mono (by decide)), (f2.mono (by decide)).trans (g2.mono (by decide))⟩, ?_, ?_⟩
      · rw [(g1.2 5 (by decide)).1, sI1, if_pos rfl, if_pos rfl]
      · rw [(g2.2 18 (by decide)).1, sI1, if_pos rfl, if_pos rfl]
    · have hq : ¬ decide ((lo : Int) ≤ v ∧ (v : Int) ≤ hi) = true := fun w => q (by have := of_decide_eq_true w; omega)
      rw [if_neg hq]
      refine Or.inl (p_bad2 (w := 2) h (by decide) (fun s e => ?_) (fun s e => by rw [e, bd_q, rz_0]))
      by_cases z : v < lo
      · rw [if_pos z, e, bd_q, if_pos (by decide), bd_q, if_pos (by decide)]
      · rw [if_neg z, if_neg (show ¬ v ≤ hi by omega), e, bd_q, if_pos (by decide), bd_q, if_pos (by decide)]
  · rw [if_neg (fun w => k2 (a1.mp w)), if_neg (fun w => k2 (a2.mp w))]
    refine Or.inl (p_bad2 (w := 1) h (by decide) (fun s e => by rw [e, bd_q, rz_0, bd_q, if_pos (by decide)]) (fun s e => by rw [e, bd_q, rz_0]))
theorem c_isSign {sg : Nat} (hs : sg < 1000) (h : PR σ τ n L B k a b c d v) : f_X9_isSign (nI sg) σ = some (bI (decide (k = 3 ∧ v = sg))) ∧ f_X12_isSign (nI sg) τ = some (bI (decide (k = 3 ∧ v = sg))) := by
  obtain ⟨a1, a2⟩ := tok_3 h.2
  unfold f_X9_isSign f_X12_isSign
  simp only [vl_q, jn_q]
  by_cases k3 : k = 3
  · obtain ⟨v9, c4, m14⟩ := h.2.2.2.1 (Or.inr k3)
    rw [if_pos (a1.mpr k3), if_pos (a2.mpr k3), c4, m14, if_eqq (by omega) (by omega)]
    by_cases q : v = sg
    · rw [if_pos q, decide_eq_true ⟨k3, q⟩]; exact ⟨rfl, rfl⟩
    · rw [if_neg q, decide_eq_false (fun w => q w.2)]; exact ⟨rfl, rfl⟩
  · rw [if_neg (fun w => k3 (a1.mp w)), if_neg (fun w => k3 (a2.mp w)), decide_eq_false (fun w => k3 w.1)]
    exact ⟨rfl, rfl⟩
theorem p_sign {sg : Nat} (hN : 1000 ≤ N) (hs : sg < 1000) (h : PR σ τ n L B k a b c d v) : Bad σ τ (f_X9_takeSign N (nI sg) σ) (f_X12_sign N (nI sg) τ) ∨ (k = 3 ∧ v = sg ∧ ∃ σ' τ', f_X9_takeSign N (nI sg) σ = some (nI 1, σ') ∧ f_X12_sign N (nI sg) τ = some (nI 1, τ') ∧ FK 1 [2, 3, 4, 8, 9] σ σ' ∧ FK 206 [4, 11, 12, 13, 14, 17] τ τ' ∧ AdvT n L B b σ' τ') := by
  obtain ⟨e1, e2⟩ := c_isSign hs h
  unfold f_X9_takeSign f_X12_sign
  rw [e1, e2, bp_q, bp_q, if_bI, if_bI]
  by_cases q : k = 3 ∧ v = sg
  · obtain ⟨σ', τ', g1, g2, f1, f2, ad⟩ := p_next hN h (Or.inr (Or.inr q.1))
    rw [if_pos (decide_eq_true q), if_pos (decide_eq_true q), g1, g2, bp_q, bp_q]
    exact Or.inr ⟨q.1, q.2, σ', τ', rfl, rfl, f1, f2, ad⟩
  · rw [if_neg (fun w => q (of_decide_eq_true w)), if_neg (fun w => q (of_decide_eq_true w))]
    exact Or.inl (p_bad2 (w := 1) h (by decide) (fun s e => by rw [e, bd_q, rz_0]) (fun s e => by rw [e, bd_q, rz_0]))
/-! words -/
theorem lgq {x y : Nat} {T : Type} {X Y : T} (hx : x < 9223372036854775808) (hy : y < 9223372036854775808) : (if lg_cmp (l64 x) (l64 y) = 0 then X else Y) = if x = y then X else Y := if_iff ((lg_cmp_eq _ _).trans (l64_inj hx hy))
theorem rv_lt {i : Nat} (hi : i < 27) : (0 < rvC i ∧ rvC i < 34359738368) ∧ 0 < rvM i ∧ rvM i < 72057594037927936 := WdP_lt (rv_ok i hi)
theorem tok_c (h : TokR σ τ n L k a b c d v) : (if k = 1 then c else 0) < 34359738368 := by
  by_cases q : k = 1
  · rw [if_pos q]; exact (WdP_lt (h.2.1 q).1).1.2
  · rw [if_neg q]; decide
theorem c_is {i : Nat} (hi : i < 27) (h : PR σ τ n L B k a b c d v) : f_X9_is (1000 + i) σ = some (bI (decide (k = 1 ∧ c = rvC i))) := by
  obtain ⟨⟨h1, h2, h3, h4, h5, h6, h7⟩, g⟩ := h.2
  have hr := rv_lt hi
  have hc := tok_c h.2
  unfold f_X9_is wcd
  rw [vl_q, if_pos (by omega), h6, Nat.add_sub_cancel_left, rv_wc i hi]
  dsimp only
  rw [lgq (by omega) (by omega)]
  by_cases k1 : k = 1
  · rw [if_pos k1]
    by_cases q : c = rvC i
    · rw [if_pos q, decide_eq_true ⟨k1, q⟩]; rfl
    · rw [if_neg q, decide_eq_false (fun w => q w.2)]; rfl
  · rw [if_neg k1, if_neg (by omega), decide_eq_false (fun w => k1 w.1)]; rfl
theorem m_is {i : Nat} {x : Int64} (hi : i < 27) (hx : x = l64 (rvM i)) (h : PR σ τ n L B k a b c d v) : f_X12_isWord x τ = some (bI (decide (k = 1 ∧ c = rvC i))) := by
  obtain ⟨a1, a2⟩ := tok_1 h.2
  have hr := rv_lt hi
  unfold f_X12_isWord
  simp only [vl_q, jn_q]
  by_cases k1 : k = 1
  · obtain ⟨w, m17⟩ := h.2.2.1 k1
    have hw := WdP_lt w
    rw [if_pos (a2.mpr k1), m17, hx, lgq (by omega) (by omega)]
    have := WdP_eq w (rv_ok i hi)
    by_cases q : c = rvC i
    · rw [if_pos (this.mp q), decide_eq_true ⟨k1, q⟩]; rfl
    · rw [if_neg (fun z => q (this.mpr z)), decide_eq_false (fun w => q w.2)]; rfl
  · rw [if_neg (fun w => k1 (a2.mp w)), decide_eq_false (fun w => k1 w.1)]; rfl
/-- the words that no name may be -/
def resv (c : Nat) : Bool := anyN (fun i => decide (c = rvC i)) 27
theorem c_resL {c : Nat} (hc : c < 34359738368) : ∀ m i, i ≤ 27 → 27 - i < m → anyN (fun i => decide (c = rvC i)) i = false → f_X10_isReserved_L2 N (l64 c) σ m (nI i) = some (bI (resv c)) := by
  intro m
  induction m with
  | zero => intro i _ h; omega
  | succ m ih =>
    intro i hi hm ha
    rw [f_X10_isReserved_L2, if_leq (by decide) (by omega)]
    by_cases q : 27 ≤ i
    · rw [if_pos q]
      obtain rfl : i = 27 := by omega
      unfold resv; rw [ha]; rfl
    · have hr := rv_lt (show i < 27 by omega)
      rw [if_neg q, ald_q (by omega) (by decide)]
      unfold wcd
      rw [if_pos (by omega), Nat.add_sub_cancel_left, rv_wc i (by omega)]
      dsimp only
      rw [lgq (by omega) (by omega)]
      by_cases z : rvC i = c
      · rw [if_pos z]
        unfold resv
        rw [anyN_t (k := i + 1) (by simp only [anyN]; rw [decide_eq_true z.symm, Bool.or_true]) (by omega)]; rfl
      · rw [if_neg z, vl_q, nI_addq]
        exact ih (i + 1) (by omega) (by omega) (by simp only [anyN]; rw [ha, decide_eq_false (fun w => z w.symm)]; rfl)
theorem m_nameL (hR : ∀ i, i < 27 → τ.2 212 i = l64 (rvM i)) (w : WdP c d) (h17 : τ.2 206 17 = l64 d) : ∀ m i, i ≤ 27 → 27 - i < m → f_X12_isName_L16 N τ m (bI (!(anyN (fun i => decide (c = rvC i)) i))) (nI i) = some (bI (!(resv c))) := by
  have hw := WdP_lt w
  intro m
  induction m with
  | zero => intro i _ h; omega
  | succ m ih =>
    intro i hi hm
    rw [f_X12_isName_L16, if_leq (by decide) (by omega)]
    by_cases q : 27 ≤ i
    · rw [if_pos q, rz_q]
      obtain rfl : i = 27 := by omega
      rfl
    · have hr := rv_lt (show i < 27 by omega)
      have he := WdP_eq w (rv_ok i (by omega))
      have ih' := ih (i + 1) (by omega) (by omega)
      rw [if_neg q, jn_q, jn_q, if_bI]
      dsimp only
      simp only [vl_q, nI_addq]
      rw [h17, ald_q (by omega) (by decide), hR i (by omega), lgq (by omega) (by omega)]
      simp only [anyN] at ih'
      rcases Bool.eq_false_or_eq_true (anyN (fun i => decide (c = rvC i)) i) with y | y
      · rw [if_neg (by rw [y]; decide)]
        rw [y, Bool.true_or, Bool.not_true, bI_f] at ih'
        exact ih'
      · rw [if_pos (by rw [y]; rfl)]
        rw [y, Bool.false_or] at ih'
        by_cases z : c = rvC i
        · rw [if_pos (he.mp z)]
          rw [decide_eq_true z, Bool.not_true, bI_f] at ih'
          exact ih'
        · rw [if_neg (fun x => z (he.mpr x))]
          rw [decide_eq_false z, Bool.not_false, bI_t] at ih'
          exact ih'
theorem m_nameF : ∀ m i, i ≤ 27 → 27 - i < m → (∀ i, i < 27 → ∃ y, τ.2 212 i = y) → f_X12_isName_L16 N τ m (nI 0) (nI i) = some (nI 0) := by
  intro m
  induction m with
  | zero => intro i _ h; omega
  | succ m ih =>
    intro i hi hm hy
    rw [f_X12_isName_L16, if_leq (by decide) (by omega)]
    by_cases q : 27 ≤ i
    · rw [if_pos q, rz_0]
    · rw [if_neg q, jn_q, jn_q, if_pos (by decide)]
      dsimp only
      rw [vl_q, nI_addq]
      exact ih (i + 1) (by omega) (by omega) hy
/-- a name stands here -/
def isNm (k c : Nat) : Bool := decide (k = 1) && !(resv c)
theorem p_isName (hN : 1000 ≤ N) (hR : ∀ i, i < 27 → τ.2 212 i = l64 (rvM i)) (h : PR σ τ n L B k a b c d v) : f_X9_isName N σ = some (bI (isNm k c)) ∧ f_X12_isName N τ = some (bI (isNm k c)) := by
  obtain ⟨⟨h1, h2, h3, h4, h5, h6, h7⟩, g⟩ := id h.2
  obtain ⟨a1, a2⟩ := tok_1 h.2
  have hc := tok_c h.2
  unfold f_X9_isName f_X12_isName f_X10_isReserved isNm
  simp only [vl_q, jn_q]
  by_cases k1 : k = 1
  · obtain ⟨w, m17⟩ := h.2.2.1 k1
    rw [if_pos k1] at h6 hc
    have e1 := c_resL (σ := σ) (N := N) hc N 0 (by omega) (by omega) rfl
    have e2 := m_nameL (τ := τ) (N := N) hR w m17 N 0 (by omega) (by omega)
    rw [show bI (!(anyN (fun i => decide (c = rvC i)) 0)) = nI 1 from rfl] at e2
    rw [if_pos (a1.mpr k1), if_pos (a2.mpr k1), h6, e1, bp_q, e2, if_bI, decide_eq_true k1, Bool.true_and]
    rcases Bool.eq_false_or_eq_true (resv c) with q | q
    · rw [if_pos q, q]; exact ⟨rfl, rfl⟩
    · rw [if_neg (by rw [q]; decide), q]; exact ⟨rfl, rfl⟩
  · rw [if_neg (fun w => k1 (a1.mp w)), if_neg (fun w => k1 (a2.mp w)), m_nameF N 0 (by omega) (by omega) (fun i _ => ⟨_, rfl⟩), decide_eq_false k1, Bool.false_and]
    exact ⟨rfl, rfl⟩
end Prims
