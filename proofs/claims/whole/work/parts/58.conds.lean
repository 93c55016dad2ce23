/-! 'and', 'or': both sides, by the reader of one operand -/
def tAn (k cc : Nat) : Prop := ¬ (k = 1 ∧ cc = rvC 16)
def tOr (k cc : Nat) : Prop := ¬ (k = 1 ∧ cc = rvC 16) ∧ ¬ (k = 1 ∧ cc = rvC 15)
def CtxS (z : Nat) (Z : Nat → Nat) : Prop := Bse z Z ∨ (1 ≤ z ∧ Z (z - 1) = 22 ∧ Bse (z - 1) Z)
section Cn
variable {N n L m0 m1 x : Nat} {B : Nat → Nat} {k12 : St → Option (Int32 × St)} {rec : Nat → Int32 → St → Option (Int32 × St)}
theorem CtxS_t {z : Nat} {Z : Nat → Nat} (h : CtxS z Z) : z = 0 ∨ Z (z - 1) = 22 ∨ Z (z - 1) = 23 := by
  unfold CtxS Bse at h
  omega
theorem p_andL (hN : 1000 ≤ N) (hx : 1 ≤ x ∧ x ≤ 12) (hr : ROK N n L B k12 m0 m1 rec x) : ∀ (F i : Nat) (σ τ : St) (m z q c h p : Nat) (K Z : Nat → Nat) (k a b cc d v : Nat), PR σ τ n L B k a b cc d v → SE σ τ m0 m1 q c (h + 1) K → ZS τ z x 1 Z → z + 2 ≤ 3 * x → CtxS z Z → c + p + 1 ≤ 2 * q → i + 1 ≤ q → 20 - i < F → 71 ≤ m + 3 * q → FLr N k12 (f_X7_readAll_L15 N rec 66 (nI x) F (nI i) σ) m τ ∨ OKx N n L B k12 m0 m1 tAn (f_X7_readAll_L15 N rec 66 (nI x) F (nI i) σ) m τ z x (m + 3 * q) q (h + 1) p Z := by
  intro F
  induction F with
  | zero => intro i σ τ m z q c h p K Z k a b cc d v _ _ _ _ _ _ _ hF; omega
  | succ F ih =>
    intro i σ τ m z q c h p K Z k a b cc d v H E S hz ct hb hi hF hm
    have q20 := E.2.1.2.2
    have tz := CtxS_t ct
    have z40 := S.2.2.2.2.1
    rw [f_X7_readAll_L15, if_leq (by decide) (by omega), if_neg (by omega), c_is (i := 16) (by decide) H, bp_q, if_bI]
    by_cases w : k = 1 ∧ cc = rvC 16
    · rw [if_pos (decide_eq_true w)]
      obtain ⟨m', rfl⟩ : ∃ m', m = m' + 1 := ⟨m - 1, by omega⟩
      obtain ⟨σ1, τ1, e1, e2, E1, S1, ep1, mq1⟩ := p_push (o := 21) hN H w.1 E S (by omega) (by rw [if_pos w.2])
      have lp : lpS N k12 (m' + 1) τ = lpS N k12 m' τ1 := by
        rw [LP1 S.2.2.1 (m_nots0 hN S (by omega)), (tok_1 H.2).2.mpr w.1, if_one, Bh_and H w, m_joins0 hN S (Or.inl rfl) (by omega), bp_q, e2, bd_q, if_one]
      rw [e1, bp_q]
      rcases hr σ1 τ1 m' (z + 1) q c (h + 1) (p + 1) K (put Z z 21) ep1 E1 S1 (by omega) (by omega) (by omega) with ⟨σ', τ', w', a', x1, x2, fl, mq⟩ | ok
      · rw [x1, bd_q, if_pos (by decide)]
        exact Or.inl ⟨σ', τ', w', a', rfl, lp.trans x2, fl, mq1.trans mq⟩
      · obtain ⟨σ', τ2, m2, q2, c2, K2, k2, a2, b2, cc2, d2, v2, x1, x2, E2, ⟨P2, _⟩, S2, y1, y2, y3, mq2⟩ := OKn_x hN (by omega) (Or.inr (by rw [Nat.add_sub_cancel, put_eq]; decide)) ok
        have q22 := E2.2.1.2.2
        obtain ⟨m3, rfl⟩ : ∃ m3, m2 = m3 + 1 := ⟨m2 - 1, by omega⟩
        obtain ⟨l1, S3, P3, E3, ad⟩ := x_pop (k12 := k12) (m' := m3) (o := 21) (Z := Z) (h' := h + 1) hN S2 (fun i hi => put_ne (by omega)) (put_eq _ _ _) P2 E2 (by omega) (Or.inl ⟨rfl, ct⟩) rfl (by omega)
        have ad' : f_X7_add 66 (nI 0) (nI 0) (nI 0) σ' = some (nI 1, adC σ' c2 (21 - 21) 0 0) := ad
        rw [x1, bd_q, if_one, ad', bd_q, vl_q, nI_addq]
        rcases ih (i + 1) _ _ (m3 + 1) z q2 (c2 + 1) h p _ Z k2 a2 b2 cc2 d2 v2 P3 E3 S3 hz ct (by omega) (by omega) (by omega) (by omega) with ⟨σ4, τ4, w', a', x3, x4, fl, mq⟩ | ⟨σ4, τ4, m4, q4, c4, K4, k4, a4, b4, cc4, d4, v4, x3, x4, E4, P4, S4, y4, y5, y6, mq4⟩
        · exact Or.inl ⟨σ4, τ4, w', a', x3, lp.trans (x2.trans (l1.trans x4)), fl, (mq1.trans (mq2.trans MqS_adM)).trans mq⟩
        · exact Or.inr ⟨σ4, τ4, m4, q4, c4, K4, k4, a4, b4, cc4, d4, v4, x3, lp.trans (x2.trans (l1.trans x4)), E4, P4, S4, y4, by omega, by omega, (mq1.trans (mq2.trans MqS_adM)).trans mq4⟩
    · rw [if_neg (fun y => w (of_decide_eq_true y))]
      exact Or.inr ⟨σ, τ, m, q, c, K, k, a, b, cc, d, v, rfl, rfl, E, ⟨H, w⟩, S, hb, Nat.le_refl _, Nat.le_refl _, MqS.rf⟩
theorem p_all (hN : 1000 ≤ N) (hx : 1 ≤ x ∧ x ≤ 12) (hr : ROK N n L B k12 m0 m1 rec x) (σ τ : St) (m z q c h p : Nat) (K Z : Nat → Nat) (ep : EPR n L B σ τ) (E : SE σ τ m0 m1 q c h K) (S : ZS τ z x 0 Z) (hz : z + 2 ≤ 3 * x) (ct : CtxS z Z) (hb : c + p ≤ 2 * q) (hm : 70 ≤ m + 3 * q) : FLr N k12 (f_X7_readAll N rec 66 (nI x) σ) m τ ∨ OKx N n L B k12 m0 m1 tAn (f_X7_readAll N rec 66 (nI x) σ) m τ z x (m + 3 * q + 1) (q + 1) (h + 1) p Z := by
  have tz := CtxS_t ct
  unfold f_X7_readAll
  rcases hr σ τ m z q c h p K Z ep E S (by omega) hb hm with ⟨σ', τ', w', a', x1, x2, fl, mq⟩ | ok
  · rw [x1, bd_q, if_pos (by decide)]
    exact Or.inl ⟨σ', τ', w', a', rfl, x2, fl, mq⟩
  · obtain ⟨σ', τ2, m2, q2, c2, K2, k2, a2, b2, cc2, d2, v2, x1, x2, E2, ⟨P2, _⟩, S2, y1, y2, y3, mq2⟩ := OKn_x hN (by omega) (by omega) ok
    rw [x1, bd_q, if_one]
    rcases p_andL hN hx hr N 0 σ' τ2 m2 z q2 c2 h p K2 Z k2 a2 b2 cc2 d2 v2 P2 E2 S2 hz ct y1 (by omega) (by omega) (by omega) with ⟨σ4, τ4, w', a', x3, x4, fl, mq⟩ | ⟨σ4, τ4, m4, q4, c4, K4, k4, a4, b4, cc4, d4, v4, x3, x4, E4, P4, S4, y4, y5, y6, mq4⟩
    · exact Or.inl ⟨σ4, τ4, w', a', x3, x2.trans x4, fl, mq2.trans mq⟩
    · exact Or.inr ⟨σ4, τ4, m4, q4, c4, K4, k4, a4, b4, cc4, d4, v4, x3, x2.trans x4, E4, P4, S4, y4, by omega, by omega, mq2.trans mq4⟩
theorem p_orL (hN : 1000 ≤ N) (hx : 1 ≤ x ∧ x ≤ 12) (hr : ROK N n L B k12 m0 m1 rec x) : ∀ (F i : Nat) (σ τ : St) (m z q c h p : Nat) (K Z : Nat → Nat) (k a b cc d v : Nat), PR σ τ n L B k a b cc d v → tAn k cc → SE σ τ m0 m1 q c (h + 1) K → ZS τ z x 1 Z → z + 3 ≤ 3 * x → Bse z Z → c + p + 1 ≤ 2 * q → i + 1 ≤ q → 20 - i < F → 71 ≤ m + 3 * q → FLr N k12 (f_X7_readCondition_L15 N rec 66 (nI x) F (nI i) σ) m τ ∨ OKx N n L B k12 m0 m1 tOr (f_X7_readCondition_L15 N rec 66 (nI x) F (nI i) σ) m τ z x (m + 3 * q) q (h + 1) p Z := by
  intro F
  induction F with
  | zero => intro i σ τ m z q c h p K Z k a b cc d v _ _ _ _ _ _ _ _ hF; omega
  | succ F ih =>
    intro i σ τ m z q c h p K Z k a b cc d v H wa E S hz ct hb hi hF hm
    have q20 := E.2.1.2.2
    have tz := CtxS_t (Or.inl ct)
    have tb : z = 0 ∨ Z (z - 1) = 23 := ct
    have z40 := S.2.2.2.2.1
    rw [f_X7_readCondition_L15, if_leq (by decide) (by omega), if_neg (by omega), c_is (i := 15) (by decide) H, bp_q, if_bI]
    by_cases w : k = 1 ∧ cc = rvC 15
    · rw [if_pos (decide_eq_true w)]
      obtain ⟨m', rfl⟩ : ∃ m', m = m' + 1 := ⟨m - 1, by omega⟩
      obtain ⟨σ1, τ1, e1, e2, E1, S1, ep1, mq1⟩ := p_push (o := 22) hN H w.1 E S (by omega) (by rw [if_neg (fun y => wa ⟨w.1, y⟩)])
      have lp : lpS N k12 (m' + 1) τ = lpS N k12 m' τ1 := by
        rw [LP1 S.2.2.1 (m_nots0 hN S (by omega)), (tok_1 H.2).2.mpr w.1, if_one, Bh_or H wa w, m_joins0 hN S (Or.inr rfl) (by omega), bp_q, e2, bd_q, if_one]
      rw [e1, bp_q]
      have ct' : CtxS (z + 1) (put Z z 22) := Or.inr ⟨by omega, by rw [Nat.add_sub_cancel, put_eq], by
        rw [Nat.add_sub_cancel]
        rcases tb with y | y
        · exact Or.inl y
        · by_cases z0 : z = 0
          · exact Or.inl z0
          · exact Or.inr (by rw [put_ne (by omega)]; exact y)⟩
      rcases p_all hN hx hr σ1 τ1 m' (z + 1) q c (h + 1) (p + 1) K (put Z z 22) ep1 E1 S1 (by omega) ct' (by omega) (by omega) with ⟨σ', τ', w', a', x1, x2, fl, mq⟩ | ⟨σ', τ2, m2, q2, c2, K2, k2, a2, b2, cc2, d2, v2, x1, x2, E2, ⟨P2, tn⟩, S2, y1, y2, y3, mq2⟩
      · rw [x1, bd_q, if_pos (by decide)]
        exact Or.inl ⟨σ', τ', w', a', rfl, lp.trans x2, fl, mq1.trans mq⟩
      · have q22 := E2.2.1.2.2
        obtain ⟨m3, rfl⟩ : ∃ m3, m2 = m3 + 1 := ⟨m2 - 1, by omega⟩
        obtain ⟨l1, S3, P3, E3, ad⟩ := x_pop (k12 := k12) (m' := m3) (o := 22) (Z := Z) (h' := h + 1) hN S2 (fun i hi => put_ne (by omega)) (put_eq _ _ _) P2 E2 (by omega) (Or.inr ⟨rfl, ct, tn⟩) rfl (by omega)
        have ad' : f_X7_add 66 (nI 1) (nI 0) (nI 0) σ' = some (nI 1, adC σ' c2 (22 - 21) 0 0) := ad
        rw [x1, bd_q, if_one, ad', bd_q, vl_q, nI_addq]
        rcases ih (i + 1) _ _ (m3 + 1) z q2 (c2 + 1) h p _ Z k2 a2 b2 cc2 d2 v2 P3 tn E3 S3 hz ct (by omega) (by omega) (by omega) (by omega) with ⟨σ4, τ4, w', a', x3, x4, fl, mq⟩ | ⟨σ4, τ4, m4, q4, c4, K4, k4, a4, b4, cc4, d4, v4, x3, x4, E4, P4, S4, y4, y5, y6, mq4⟩
        · exact Or.inl ⟨σ4, τ4, w', a', x3, lp.trans (x2.trans (l1.trans x4)), fl, (mq1.trans (mq2.trans MqS_adM)).trans mq⟩
        · exact Or.inr ⟨σ4, τ4, m4, q4, c4, K4, k4, a4, b4, cc4, d4, v4, x3, lp.trans (x2.trans (l1.trans x4)), E4, P4, S4, y4, by omega, by omega, (mq1.trans (mq2.trans MqS_adM)).trans mq4⟩
    · rw [if_neg (fun y => w (of_decide_eq_true y))]
      exact Or.inr ⟨σ, τ, m, q, c, K, k, a, b, cc, d, v, rfl, rfl, E, ⟨H, wa, w⟩, S, hb, Nat.le_refl _, Nat.le_refl _, MqS.rf⟩
theorem p_cond (hN : 1000 ≤ N) (hx : 1 ≤ x ∧ x ≤ 12) (hr : ROK N n L B k12 m0 m1 rec x) (σ τ : St) (m z q c h p : Nat) (K Z : Nat → Nat) (ep : EPR n L B σ τ) (E : SE σ τ m0 m1 q c h K) (S : ZS τ z x 0 Z) (hz : z + 3 ≤ 3 * x) (ct : Bse z Z) (hb : c + p ≤ 2 * q) (hm : 70 ≤ m + 3 * q) : FLr N k12 (f_X7_readCondition N rec 66 (nI x) σ) m τ ∨ OKx N n L B k12 m0 m1 tOr (f_X7_readCondition N rec 66 (nI x) σ) m τ z x (m + 3 * q + 1) (q + 1) (h + 1) p Z := by
  unfold f_X7_readCondition
  rcases p_all hN hx hr σ τ m z q c h p K Z ep E S (by omega) (Or.inl ct) hb hm with ⟨σ', τ', w', a', x1, x2, fl, mq⟩ | ⟨σ', τ2, m2, q2, c2, K2, k2, a2, b2, cc2, d2, v2, x1, x2, E2, ⟨P2, tn⟩, S2, y1, y2, y3, mq2⟩
  · rw [x1, bd_q, if_pos (by decide)]
    exact Or.inl ⟨σ', τ', w', a', rfl, x2, fl, mq⟩
  · rw [x1, bd_q, if_one]
    rcases p_orL hN hx hr N 0 σ' τ2 m2 z q2 c2 h p K2 Z k2 a2 b2 cc2 d2 v2 P2 tn E2 S2 hz ct y1 (by omega) (by omega) (by omega) with ⟨σ4, τ4, w', a', x3, x4, fl, mq⟩ | ⟨σ4, τ4, m4, q4, c4, K4, k4, a4, b4, cc4, d4, v4, x3, x4, E4, P4, S4, y4, y5, y6, mq4⟩
    · exact Or.inl ⟨σ4, τ4, w', a', x3, x2.trans x4, fl, mq2.trans mq⟩
    · exact Or.inr ⟨σ4, τ4, m4, q4, c4, K4, k4, a4, b4, cc4, d4, v4, x3, x2.trans x4, E4, P4, S4, y4, by omega, by omega, mq2.trans mq4⟩
end Cn
