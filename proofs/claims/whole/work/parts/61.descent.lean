/-! the descent: one operand at any depth, both sides -/
section De
variable {N n L m0 m1 : Nat} {B : Nat → Nat} {k12 : St → Option (Int32 × St)} {rec : Nat → Int32 → St → Option (Int32 × St)}
/-- what follows the model's operand -/
def aft (N : Nat) (k12 : St → Option (Int32 × St)) (m : Nat) (y : Option (Int32 × St)) : Option (Int32 × St) := bd y fun v25 s26 => if v25 = 0 then kFl s26 else lpS N k12 m s26
/-- refused or told, both: X the class, Y the model, τ where it began -/
def RoE (N n L : Nat) (B : Nat → Nat) (k12 : St → Option (Int32 × St)) (m0 m1 : Nat) (X Y : Option (Int32 × St)) (τ : St) (z x M Q h p : Nat) (Z : Nat → Nat) : Prop := (∃ σ' τ' w a, X = some (nI 0, σ') ∧ Y = kFl τ' ∧ FltP σ' τ' w a ∧ MqS τ τ') ∨ ∃ σ' τ1 τ2 dd m' q' c' K' k a b cc d v, X = some (nI 1, σ') ∧ Y = lpS N k12 m' τ1 ∧ (τ1.1 206 48 = nI 1 ∧ τ1.1 206 11 = τ2.1 206 11 ∧ dd + x ≤ 20 ∧ ∀ j, f_X12_nots_L0 N (j + dd) τ1 = f_X12_nots_L0 N j τ2) ∧ SE σ' τ2 m0 m1 q' c' h K' ∧ PR σ' τ2 n L B k a b cc d v ∧ ZS τ2 z x 1 Z ∧ c' + p + 1 ≤ 2 * q' ∧ Q ≤ q' ∧ M ≤ m' + 3 * q' ∧ MqS τ τ2
theorem p_inN {σ τ : St} {q c h z x m p : Nat} {K Z : Nat → Nat} {v3 : Int32} (hN : 1000 ≤ N) (hx : 1 ≤ x ∧ x ≤ 8) (hr : ROK N n L B k12 m0 m1 rec (x + 1)) (ep : EPR n L B σ τ) (E : SE σ τ m0 m1 q c h K) (S : ZS τ z x 0 Z) (hz : z + 1 ≤ 3 * x) (hb : c + p + 2 ≤ 2 * q) (hm : 72 ≤ m + 3 * q) : RoE N n L B k12 m0 m1 (cIn N rec (nI x) (nI 2) (nI 0) σ) (aft N k12 m (mIn N (nI 1) (nI 0) v3 τ)) τ z x (m + 3 * q) q (h + 1) p Z := by
  obtain ⟨τ1, e1, E1, S1, ep1, mq1⟩ := p_hold (v1 := nI 1) (o := 20) ep E S (by omega) (by omega) (Or.inr ⟨rfl, rfl⟩)
  have my : aft N k12 m (mIn N (nI 1) (nI 0) v3 τ) = lpS N k12 m τ1 := by
    unfold aft mIn
    rw [e1, jn_q, if_one, bd_q, if_one]
  rw [my]
  unfold cIn
  rw [if_pos (by decide), if_pos rfl, nI_addq]
  rcases hr σ τ1 m (z + 1) q c h (p + 1) K (put Z z 20) ep1 E1 S1 (by omega) (by omega) (by omega) with ⟨σ', τ', w', a', x1, x2, fl, mq⟩ | ⟨σ', t1, t2, dd, m', q', c', K', k, a, b, cc, d, v, x1, x2, ⟨y1, y2, y3, y4⟩, E2, P2, S2, b1, b2, b3, mq⟩
  · rw [x1, bd_q]
    refine Or.inl ⟨σ', τ', w', a', ?_, x2, fl, mq1.trans mq⟩
    refine (jn_q _ _).trans ?_
    rw [if_pos (by decide)]
  · have q20 := E2.2.1.2.2
    have st := fun j => m_not1 (N := N) S2 hx.1 (put_eq Z z 20) E2.2.2.1.2.1 (by omega) j
    have S3 : ZS (adM (popN t2 z x) c' 20 0 0) z x 1 Z := ZS_c (st 0).2 (fun i hi => (put_ne (by omega)).symm)
    have Ep : SE σ' (popN t2 z x) m0 m1 q' c' (h + 1) K' := SE_48 (SE_48 E2 46 (nI z) (by decide)) 47 (nI x) (by decide)
    have E3 := SE_add (h' := h + 1) (K0 := 2) (u := 0) (v := 0) Ep (by omega) (by decide) (by decide) (by decide) (by omega) (by omega) (by omega) ⟨by omega, by rw [if_neg (by decide), if_pos rfl]⟩
    have P3 : PR (adC σ' c' 2 0 0) (adM (popN t2 z x) c' 20 0 0) n L B k a b cc d v := PR_adC (PR_adM (PR_K P2 (FK.rf (ks := [])) (fun x hx => absurd hx List.not_mem_nil) ((FK.rf.sI (ks := [46, 47]) (by decide)).sI (by decide)) (by decide)))
    have ad := c_add (σ := σ') (c := c') (K := 2) (u := 0) (v := 0) E2.2.2.1.1 (by omega)
    rw [x1, bd_q]
    refine Or.inr ⟨adC σ' c' 2 0 0, t1, _, dd + 1, m', q', c' + 1, _, k, a, b, cc, d, v, ?_, x2, ⟨y1, ?_, by omega, fun j => ?_⟩, E3, P3, S3, by omega, by omega, by omega, (mq1.trans mq).trans (fun b b1 b2 _ => ⟨(adM_o b1 b2).trans (popN_o b1), rfl⟩)⟩
    · refine (jn_q _ _).trans ?_
      rw [if_one, ad, bd_q, if_one]
    · rw [adM_k (by decide), popN_k (by decide) (by decide)]; exact y2
    · rw [show j + (dd + 1) = j + 1 + dd by omega, y4, (st j).1]; rfl
theorem p_inL {σ τ : St} {q c h z x m p K0 : Nat} {K Z : Nat → Nat} (hN : 1000 ≤ N) (hx : 1 ≤ x ∧ x ≤ 8) (hK : 3 ≤ K0 ∧ K0 ≤ 11) (ep : EPR n L B σ τ) (E : SE σ τ m0 m1 q c h K) (S : ZS τ z x 0 Z) (hb : c + p + 2 ≤ 2 * q) (hm : 72 ≤ m + 3 * q) (hop : ∀ r s, mIn N (nI 0) (nI 0) (nI (K0 - 3)) τ = some (r, s) → MqS τ s) : RoE N n L B k12 m0 m1 (cIn N rec (nI x) (nI K0) (nI 0) σ) (aft N k12 m (mIn N (nI 0) (nI 0) (nI (K0 - 3)) τ)) τ z x (m + 3 * q) q (h + 1) p Z := by
  obtain ⟨k, a, b, cc, d, v, H⟩ := ep
  have q20 := E.2.1.2.2
  have mi : mIn N (nI 0) (nI 0) (nI (K0 - 3)) τ = mLf N (nI (K0 - 3)) τ := by
    unfold mIn
    refine (jn_q _ _).trans ?_
    rw [if_pos (by decide), if_pos (by decide)]
  rw [mi] at hop
  have lf : LfE n L B τ m0 m1 q c h (f_X7_readPlain N 66 (nI K0) σ) (mLf N (nI (K0 - 3)) τ) := by
    by_cases y : K0 ≤ 5
    · exact p_lfP H E (by omega) ⟨hK.1, y⟩
    · by_cases y2 : K0 ≤ 7
      · exact p_lfN hN H E (by omega) (by omega)
      · exact p_lfM hN H E (by omega) ⟨by omega, hK.2⟩
  unfold aft cIn
  rw [if_pos (by decide), if_eqq (by omega) (by decide), if_neg (by omega), mi]
  rcases lf with ⟨σ', τ', w, a', e1, e2, fl⟩ | ⟨σ', τ', K', e1, e2, E2, ⟨k2, a2, b2, cc2, d2, v2, P2⟩, ⟨s1, s2, s3, s4⟩⟩
  · rw [e1, bd_q, rz_0, e2, bd_q, if_pos (by decide)]
    exact Or.inl ⟨σ', τ', w, a', rfl, rfl, fl, hop _ _ e2⟩
  · rw [e1, bd_q, rz_1, e2, bd_q, if_one]
    obtain ⟨h1, h2, h3, h4, h5, h6, h7⟩ := S
    exact Or.inr ⟨σ', τ', τ', 0, m, q, c + 1, K', k2, a2, b2, cc2, d2, v2, rfl, rfl, ⟨s3, rfl, by omega, fun j => rfl⟩, E2, P2, ⟨s1.trans h1, s2.trans h2, s3, fun i hi => by rw [s4]; exact h4 i hi, h5, h6, h7⟩, by omega, Nat.le_refl _, Nat.le_refl _, hop _ _ e2⟩
theorem p_inB {σ τ : St} {q c h z x m p : Nat} {K Z : Nat → Nat} {v1 v3 : Int32} (hN : 1000 ≤ N) (hx : 1 ≤ x ∧ x ≤ 8) (hr : ROK N n L B k12 m0 m1 rec (x + 1)) (ep : EPR n L B σ τ) (E : SE σ τ m0 m1 q c h K) (S : ZS τ z x 0 Z) (hz : z + 1 ≤ 3 * x) (hb : c + p + 2 ≤ 2 * q) (hm : 72 ≤ m + 3 * q) : RoE N n L B k12 m0 m1 (cIn N rec (nI x) v1 (nI 1) σ) (aft N k12 m (mIn N (nI 0) (nI 1) v3 τ)) τ z x (m + 3 * q) q (h + 1) p Z := by
  obtain ⟨τ1, e1, E1, S1, ep1, mq1⟩ := p_hold (v1 := nI 0) (o := 23) ep E S (by omega) (by omega) (Or.inl ⟨rfl, rfl⟩)
  have my : aft N k12 m (mIn N (nI 0) (nI 1) v3 τ) = lpS N k12 m τ1 := by
    unfold aft mIn
    rw [e1, jn_q, if_pos (by decide), if_one, bd_q, if_one]
  rw [my]
  unfold cIn
  rw [if_one, nI_addq]
  rcases p_cond hN ⟨by omega, by omega⟩ hr σ τ1 m (z + 1) q c h p K (put Z z 23) ep1 E1 S1 (by omega) (Or.inr (by rw [Nat.add_sub_cancel, put_eq])) (by omega) (by omega) with ⟨σ', τ', w', a', x1, x2, fl, mq⟩ | ⟨σ', t2, m', q', c', K', k, a, b, cc, d, v, x1, x2, E2, ⟨P2, tn⟩, S2, b1, b2, b3, mq⟩
  · rw [x1, bd_q]
    refine Or.inl ⟨σ', τ', w', a', ?_, x2, fl, mq1.trans mq⟩
    refine (jn_q _ _).trans ?_
    rw [if_pos (by decide)]
  · have q20 := E2.2.1.2.2
    obtain ⟨m3, rfl⟩ : ∃ m3, m' = m3 + 1 := ⟨m' - 1, by omega⟩
    rw [x1, bd_q]
    rcases p_close (k12 := k12) (m := m3) hN P2 tn E2 S2 hx.1 (put_eq Z z 23) with ⟨σ4, τ4, w', a', e3, e4, fl, mq4⟩ | ⟨σ4, τ4, e3, e4, E4, S4, ⟨k4, a4, b4, cc4, d4, v4, P4⟩, mq4⟩
    · refine Or.inl ⟨σ4, τ4, w', a', ?_, x2.trans e4, fl, (mq1.trans mq).trans mq4⟩
      refine (jn_q _ _).trans ?_
      rw [if_one, e3, bd_q, if_pos (by decide)]
    · refine Or.inr ⟨σ4, τ4, τ4, 0, m3, q', c', K', k4, a4, b4, cc4, d4, v4, ?_, x2.trans e4, ⟨S4.2.2.1, rfl, by omega, fun j => rfl⟩, E4, P4, ZS_c S4 (fun i hi => (put_ne (by omega)).symm), b1, by omega, by omega, (mq1.trans mq).trans mq4⟩
      refine (jn_q _ _).trans ?_
      rw [if_one, e3, bd_q, if_one]
theorem p_jo {σ τ : St} {q c h z x m p k a b cc d v : Nat} {K Z : Nat → Nat} {v1 v2 w1 v3 : Int32} (hN : 1000 ≤ N) (hx : 1 ≤ x ∧ x ≤ 9) (hr : x ≤ 8 → ROK N n L B k12 m0 m1 rec (x + 1)) (H : PR σ τ n L B k a b cc d v) (hk : k = 1 ∨ k = 2 ∨ k = 3) (E : SE σ τ m0 m1 q c h K) (S : ZS τ z x 0 Z) (hz : z + 1 ≤ 3 * x) (hb : c + p ≤ 2 * q) (hm : 70 ≤ m + 1 + 3 * q) (hop : f_X12_operand N τ = mJo N w1 v2 v3 τ) (D : (v2 = nI 0 ∧ ((v1 = nI 2 ∧ w1 = nI 1) ∨ ∃ K0, (3 ≤ K0 ∧ K0 ≤ 11) ∧ v1 = nI K0 ∧ w1 = nI 0 ∧ v3 = nI (K0 - 3))) ∨ (v2 = nI 1 ∧ w1 = nI 0)) : FLr N k12 (cJo N rec (nI x) v1 v2 σ) (m + 1) τ ∨ OKn N n L B k12 m0 m1 (cJo N rec (nI x) v1 v2 σ) (m + 1) τ z x (m + 1 + 3 * q + 1) (q + 1) (h + 1) p Z := by
  have q20 := E.2.1.2.2
  have l0 : lpS N k12 (m + 1) τ = aft N k12 m (mJo N w1 v2 v3 τ) := by rw [LP0 S.2.2.1, hop]; rfl
  by_cases lim : q = 20 ∨ 8 < x
  · obtain ⟨σ', τ', e1, e2, fl, g1, g2⟩ := p_bad (w := 4) H (by decide)
    refine Or.inl ⟨σ', τ', 4, a, ?_, ?_, fl, MqS.fk g2⟩
    · unfold cJo
      rw [vl_q, E.2.1.1]
      refine (jn_q _ _).trans ?_
      rw [e1, bd_q, rz_0, if_leq (by decide) (by omega)]
      by_cases y : 20 ≤ q
      · rw [if_pos y]
      · rw [if_neg y, if_leq (by omega) (by decide), if_neg (by omega)]
    · rw [l0]
      have : mJo N w1 v2 v3 τ = some (nI 0, τ') := by
        unfold mJo
        rw [vl_q, E.2.1.2.1]
        refine (jn_q _ _).trans ?_
        rw [e2, bd_q, rz_0, if_eqq (by omega) (by decide)]
        by_cases y : q = 20
        · rw [if_pos y]
        · rw [if_neg y, vl_q, S.2.1, if_leq (by omega) (by decide), if_neg (by omega)]
      rw [this]
      unfold aft
      rw [bd_q, if_pos (by decide)]
  · obtain ⟨σ1, τ1, e1, e2, E1, S1, ep1, mq1⟩ := p_step hN H hk E S (by omega)
    have X : cJo N rec (nI x) v1 v2 σ = cIn N rec (nI x) v1 v2 σ1 := by
      unfold cJo
      rw [vl_q, E.2.1.1]
      refine (jn_q _ _).trans ?_
      rw [if_leq (by decide) (by omega), if_neg (by omega), if_leq (by omega) (by decide), if_pos (by omega), vl_q, vl_q, nI_addq, e1, bp_q]
      rfl
    have Y : mJo N w1 v2 v3 τ = mIn N w1 v2 v3 τ1 := by
      unfold mJo
      rw [vl_q, E.2.1.2.1]
      refine (jn_q _ _).trans ?_
      rw [if_eqq (by omega) (by decide), if_neg (by omega), vl_q, S.2.1, if_leq (by omega) (by decide), if_pos (by omega), vl_q, vl_q, nI_addq, e2, bp_q]
      rfl
    have hop1 : ∀ r s, mIn N w1 v2 v3 τ1 = some (r, s) → MqS τ1 s := fun r s e => by
      have f := fr_X12_operand (R := [206, 210, 220]) (by decide) ((hop.trans Y).trans e)
      have g := MqS_fr f
      exact fun b b1 b2 b3 => ⟨(g b b1 b2 b3).1.trans (mq1 b b1 b2 b3).1.symm, (g b b1 b2 b3).2.trans (mq1 b b1 b2 b3).2.symm⟩
    have R : RoE N n L B k12 m0 m1 (cIn N rec (nI x) v1 v2 σ1) (aft N k12 m (mIn N w1 v2 v3 τ1)) τ1 z x (m + 3 * (q + 1)) (q + 1) (h + 1) p Z := by
      rcases D with ⟨d1, ⟨d2, d3⟩ | ⟨K0, d2, d3, d4, d5⟩⟩ | ⟨d1, d2⟩
      · rw [d1, d2, d3]
        exact p_inN hN ⟨hx.1, by omega⟩ (hr (by omega)) ep1 E1 S1 hz (by omega) (by omega)
      · rw [d1, d4, d5] at hop1
        rw [d1, d3, d4, d5]
        exact p_inL hN ⟨hx.1, by omega⟩ d2 ep1 E1 S1 (by omega) (by omega) hop1
      · rw [d1, d2]
        exact p_inB hN ⟨hx.1, by omega⟩ (hr (by omega)) ep1 E1 S1 hz (by omega) (by omega)
    rw [X]
    rcases R with ⟨σ', τ', w', a', x1, x2, fl, mq⟩ | ⟨σ', t1, t2, dd, m', q', c', K', k, a, b, cc, d, v, x1, x2, y, E2, P2, S2, b1, b2, b3, mq⟩
    · exact Or.inl ⟨σ', τ', w', a', x1, by rw [l0, Y]; exact x2, fl, mq1.trans mq⟩
    · exact Or.inr ⟨σ', t1, t2, dd, m', q', c', K', k, a, b, cc, d, v, x1, by rw [l0, Y]; exact x2, y, E2, P2, S2, b1, b2, by omega, mq1.trans mq⟩
theorem p_one (hN : 1000 ≤ N) : ∀ (kf x : Nat), 1 ≤ x → x ≤ 9 → 10 ≤ kf + x → ROK N n L B k12 m0 m1 (F_X7_readOne N kf) x := by
  intro kf
  induction kf with
  | zero => intro x h1 h2 h3; omega
  | succ kf ih =>
    intro x h1 h2 h3 σ τ m z q c h p K Z ep E S hz hb hm
    obtain ⟨k, a, b, cc, d, v, H⟩ := ep
    have q20 := E.2.1.2.2
    obtain ⟨m', rfl⟩ : ∃ m', m = m' + 1 := ⟨m - 1, by omega⟩
    have hr : x ≤ 8 → ROK N n L B k12 m0 m1 (F_X7_readOne N kf) (x + 1) := fun h8 => ih (x + 1) (by omega) (by omega) (by omega)
    obtain ⟨sc, sm⟩ := c_isSign (sg := 40) (by decide) H
    have cls : F_X7_readOne N (kf + 1) 66 (nI x) σ = bp (f_X7_kindAt σ) fun v1 => bp (f_X9_isSign (nI 40) σ) fun v2 => jn (cJo N (F_X7_readOne N kf) (nI x) v1 v2 σ) fun j3 => if v1 = (-1) then if v2 = 0 then bd (f_X9_refuse (nI 1) σ) fun v25 s26 => rz v25 (some (v25, s26)) else j3 else j3 := rfl
    have mod : f_X12_operand N τ = bp (f_X12_isWord (7237492 : Int64) τ) fun v1 => bp (f_X12_isSign (nI 40) τ) fun v2 => bp (f_X12_leafOf τ) fun v3 => jn (mJo N v1 v2 v3 τ) fun j4 => if v1 = 0 then if v2 = 0 then if 0 ≤ v3 then j4 else bd (f_X12_bad (nI 1) τ) fun v50 s51 => rz v50 (some (v50, s51)) else j4 else j4 := rfl
    rcases p_kind H with ⟨K0, lf, k2, k11, kk, c1, m1', m2', m3'⟩ | ⟨c1, m1', m2'⟩
    · have ns : decide (k = 3 ∧ v = 40) = false := decide_eq_false (fun w => by omega)
      have cq : F_X7_readOne N (kf + 1) 66 (nI x) σ = cJo N (F_X7_readOne N kf) (nI x) (nI K0) (nI 0) σ := by
        rw [cls, c1, bp_q, sc, ns, bp_q]
        refine (jn_q _ _).trans ?_
        rw [if_nm1 (by omega)]; rfl
      rw [cq]
      by_cases y : K0 = 2
      · have mo : f_X12_operand N τ = mJo N (nI 1) (nI 0) lf τ := by
          rw [mod, m1', decide_eq_true y, bp_q, sm, ns, bp_q, m2', bp_q]
          refine (jn_q _ _).trans ?_
          rw [if_neg (by decide)]; rfl
        exact p_jo hN ⟨h1, h2⟩ hr H (Or.inl kk) E S hz hb hm mo (Or.inl ⟨rfl, Or.inl ⟨by rw [y], rfl⟩⟩)
      · have mo : f_X12_operand N τ = mJo N (nI 0) (nI 0) lf τ := by
          rw [mod, m1', decide_eq_false y, bp_q, sm, ns, bp_q, m2', bp_q]
          refine (jn_q _ _).trans ?_
          rw [if_pos (by decide), if_pos (by decide), m3' (by omega), if_ge0 (by omega)]; rfl
        exact p_jo hN ⟨h1, h2⟩ hr H (Or.inl kk) E S hz hb hm mo (Or.inl ⟨rfl, Or.inr ⟨K0, ⟨by omega, k11⟩, rfl, rfl, m3' (by omega)⟩⟩)
    · by_cases w : k = 3 ∧ v = 40
      · have cq : F_X7_readOne N (kf + 1) 66 (nI x) σ = cJo N (F_X7_readOne N kf) (nI x) (-1) (nI 1) σ := by
          rw [cls, c1, bp_q, sc, decide_eq_true w, bp_q]
          refine (jn_q _ _).trans ?_
          rw [if_pos rfl, if_neg (by decide)]; rfl
        have mo : f_X12_operand N τ = mJo N (nI 0) (nI 1) (-1) τ := by
          rw [mod, m1', bp_q, sm, decide_eq_true w, bp_q, m2', bp_q]
          refine (jn_q _ _).trans ?_
          rw [if_pos (by decide), if_neg (by decide)]; rfl
        rw [cq]
        exact p_jo hN ⟨h1, h2⟩ hr H (Or.inr (Or.inr w.1)) E S hz hb hm mo (Or.inr ⟨rfl, rfl⟩)
      · obtain ⟨σ', τ', e1, e2, fl, g1, g2⟩ := p_bad (w := 1) H (by decide)
        refine Or.inl ⟨σ', τ', 1, a, ?_, ?_, fl, MqS.fk g2⟩
        · rw [cls, c1, bp_q, sc, decide_eq_false w, bp_q]
          refine (jn_q _ _).trans ?_
          rw [if_pos rfl, if_pos (by decide), e1, bd_q, rz_0]
        · rw [LP0 S.2.2.1, mod, m1', bp_q, sm, decide_eq_false w, bp_q, m2', bp_q, e2, jn_q, if_pos (by decide), if_pos (by decide), if_neg (by decide), bd_q, rz_0, bd_q, if_pos (by decide)]
end De
