/-! a sentence is told: the law's act -/
theorem d61 : rr 61 2 = 62 ∧ rr 61 3 = 63 ∧ rr 61 4 = 64 := by decide +kernel
/-- the speech: class cells 61 to 64, the model's row from 178 -/
def SpR (σ τ : St) (m0 m1 c : Nat) (K : Nat → Nat) : Prop := (∃ q, σ.1 61 0 = nI q ∧ q ≤ 20 ∧ (q = 0 ↔ c = 0)) ∧ σ.1 61 1 = nI c ∧ τ.1 208 178 = nI c ∧ c ≤ 40 ∧ ∀ i, i < c → ∃ u v, K i ≤ 11 ∧ u ≤ 999 ∧ v ≤ 999 ∧ (K i = 6 → v < m0) ∧ (K i = 7 → v < m1) ∧ (8 ≤ K i → 60 ≤ u ∧ u ≤ 62) ∧ σ.1 62 i = nI (K i) ∧ σ.1 63 i = nI u ∧ σ.1 64 i = nI v ∧ τ.1 208 (179 + 3 * i) = nI (mKd (K i)) ∧ τ.1 208 (179 + 3 * i + 1) = nI u ∧ τ.1 208 (179 + 3 * i + 2) = nI v
section Sn
variable {σ τ : St} {N n m0 m1 : Nat} {B : Nat → Nat}
theorem m_L146 {s : St} {c : Nat} {k38 : St → Option (Int32 × St)} (h44 : s.1 206 44 = nI c) (hc : c ≤ 40) : ∀ F i (t : St), i ≤ 3 * c → 3 * c - i < F → (∀ b, b ≠ 208 → t.1 b = s.1 b) → t.2 = s.2 → (∀ j, t.1 208 j = if 179 ≤ j ∧ j < 179 + i then s.1 210 (j - 179) else s.1 208 j) → ∃ t', f_X12_sentence_L146 N k38 F (nI i) t = k38 t' ∧ (∀ b, b ≠ 208 → t'.1 b = s.1 b) ∧ t'.2 = s.2 ∧ ∀ j, t'.1 208 j = if 179 ≤ j ∧ j < 179 + 3 * c then s.1 210 (j - 179) else s.1 208 j := by
  have e3 : nI 3 * nI c = nI (3 * c) := by
    have : ∀ c, c < 45 → nI 3 * nI c = nI (3 * c) := by decide +kernel
    exact this c (by omega)
  intro F
  induction F with
  | zero => intro i t _ h; omega
  | succ F ih =>
    intro i t hi hF ho h2 hl
    rw [f_X12_sentence_L146, vl_q, ho 206 (by decide), h44, e3, if_leq (by omega) (by omega)]
    by_cases z : 3 * c ≤ i
    · rw [if_pos z]
      obtain rfl : i = 3 * c := by omega
      exact ⟨t, rfl, ho, h2, hl⟩
    · rw [if_neg z, ald_q (by omega) (by decide), nI_addq, ald_q (by omega) (by decide), vl_q, nI_addq, ho 210 (by decide)]
      refine ih (i + 1) _ (by omega) (by omega) (fun b hb => (sI_ne hb).trans (ho b hb)) h2 (fun j => ?_)
      rw [sI1, if_pos rfl]
      by_cases q : j = 179 + i
      · rw [if_pos q, if_pos (by omega), q, Nat.add_sub_cancel_left]
      · rw [if_neg q, hl]
        by_cases y : 179 ≤ j ∧ j < 179 + i
        · rw [if_pos y, if_pos (by omega)]
        · rw [if_neg y, if_neg (by omega)]
theorem c_copySaid (s : St) : ∃ t, f_X7_copyFrom 61 66 s = some t ∧ t.1 61 0 = s.1 66 0 ∧ t.1 61 1 = s.1 66 1 ∧ (∀ i, i < 40 → t.1 62 i = s.1 67 i ∧ t.1 63 i = s.1 68 i ∧ t.1 64 i = s.1 69 i) ∧ (∀ b, b ≠ 61 → b ≠ 62 → b ≠ 63 → b ≠ 64 → t.1 b = s.1 b) ∧ t.2 = s.2 := by
  unfold f_X7_copyFrom
  rw [vl_q, vl_q, vl_q, vl_q, d61.1, d61.2.1, d61.2.2, d66.1, d66.2.1, d66.2.2, cpi, if_neg (by decide), cpi, if_neg (by decide), cpi, if_neg (by decide)]
  refine ⟨_, rfl, ?_, ?_, fun i hi => ⟨?_, ?_, ?_⟩, fun b b1 b2 b3 b4 => ?_, rfl⟩
  · rw [sC_ne (by decide), sC_ne (by decide), sC_ne (by decide), sI1, if_pos rfl, if_neg (by decide), sI1, if_pos rfl, if_pos rfl]
  · rw [sC_ne (by decide), sC_ne (by decide), sC_ne (by decide), sI1, if_pos rfl, if_pos rfl, sI_ne (by decide)]
  · rw [sC_ne (by decide), sC_ne (by decide), sC1, if_pos rfl, if_pos hi, sI_ne (by decide), sI_ne (by decide)]
  · rw [sC_ne (by decide), sC1, if_pos rfl, if_pos hi, sC_ne (by decide), sI_ne (by decide), sI_ne (by decide)]
  · rw [sC1, if_pos rfl, if_pos hi, sC_ne (by decide), sC_ne (by decide), sI_ne (by decide), sI_ne (by decide)]
  · rw [sC_ne b4, sC_ne b3, sC_ne b2, sI_ne b1, sI_ne b1]
/-- the model's end of a sentence -/
def k12S (N : Nat) : St → Option (Int32 × St) := fun (s33 : St) =>
    vl (s33.1 206 44) fun v34 =>
    ald (fun j => sI s33 208 j v34) 359 (nI 178) fun s35 =>
    f_X12_sentence_L146 N (fun (s46 : St) =>
      vl (s46.1 206 45) fun v47 =>
      some (v47, s46)) N (nI 0) s35
theorem p_sent (hN : 1000 ≤ N) (hT : TapR σ τ n B) (hC : ChN σ τ m0 m1) : (∃ σ' τ' w a, f_X7_read N 66 σ = some (nI 0, σ') ∧ f_X12_sentence N τ = some (-1 - nI a, τ') ∧ FltP σ' τ' w a ∧ MqS τ τ') ∨ ∃ σ' τ' q c K, f_X7_read N 66 σ = some (nI 1, σ') ∧ f_X12_sentence N τ = k12S N τ' ∧ SE σ' τ' m0 m1 q c 1 K ∧ 1 ≤ q ∧ MqS τ τ' ∧ σ'.1 1 6 = nI 0 ∧ τ'.1 206 15 = nI 0 := by
  obtain ⟨hn, hTC, hTM, hBb⟩ := hT
  have mod : f_X12_sentence N τ = bp (f_X12_next N (sI (sI (sI (sI (sI (sI (tkS (nI 200) τ) 206 15 (nI 0)) 206 44 (nI 0)) 206 45 (nI 0)) 206 46 (nI 0)) 206 47 (nI 1)) 206 48 (nI 0))) fun s9 => lpS N (k12S N) N s9 := by
    unfold f_X12_sentence
    rw [vl_q, m_taken, bp_q, vl_q, vl_q, vl_q, vl_q, vl_q, vl_q]
    rfl
  have k4 : ∀ j, (sI (sI (sI (sI (sI (sI (tkS (nI 200) τ) 206 15 (nI 0)) 206 44 (nI 0)) 206 45 (nI 0)) 206 46 (nI 0)) 206 47 (nI 1)) 206 48 (nI 0)).1 206 j = if j = 48 then nI 0 else if j = 47 then nI 1 else if j = 46 then nI 0 else if j = 45 then nI 0 else if j = 44 then nI 0 else if j = 15 then nI 0 else (tkS (nI 200) τ).1 206 j := fun j => by
    rw [sI1, if_pos rfl, sI1, if_pos rfl, sI1, if_pos rfl, sI1, if_pos rfl, sI1, if_pos rfl, sI1, if_pos rfl]
  have m4 : ∀ b, b ≠ 206 → (sI (sI (sI (sI (sI (sI (tkS (nI 200) τ) 206 15 (nI 0)) 206 44 (nI 0)) 206 45 (nI 0)) 206 46 (nI 0)) 206 47 (nI 1)) 206 48 (nI 0)).1 b = τ.1 b := fun b hb => by
    rw [sI_ne hb, sI_ne hb, sI_ne hb, sI_ne hb, sI_ne hb, sI_ne hb, tk_c hb]
  have q4 : (sI (sI (sI (sI (sI (sI (tkS (nI 200) τ) 206 15 (nI 0)) 206 44 (nI 0)) 206 45 (nI 0)) 206 46 (nI 0)) 206 47 (nI 1)) 206 48 (nI 0)).2 = τ.2 := rfl
  rw [mod]
  generalize hm4 : (sI (sI (sI (sI (sI (sI (tkS (nI 200) τ) 206 15 (nI 0)) 206 44 (nI 0)) 206 45 (nI 0)) 206 46 (nI 0)) 206 47 (nI 1)) 206 48 (nI 0)) = τ4 at *
  have c4 : ∀ b, b ≠ 66 → (sI (sI σ 66 0 (nI 0)) 66 1 (nI 0)).1 b = σ.1 b := fun b hb => by rw [sI_ne hb, sI_ne hb]
  have d4 : (sI (sI σ 66 0 (nI 0)) 66 1 (nI 0)).1 66 0 = nI 0 ∧ (sI (sI σ 66 0 (nI 0)) 66 1 (nI 0)).1 66 1 = nI 0 := by
    rw [sI1, if_pos rfl, if_neg (by decide), sI1, if_pos rfl, if_pos rfl, sI1, if_pos rfl, if_pos rfl]
    exact ⟨rfl, rfl⟩
  unfold f_X7_read f_X7_clear
  rw [vl_q, vl_q, bp_q]
  have l4 : (sI (sI σ 66 0 (nI 0)) 66 1 (nI 0)).2 = σ.2 := rfl
  generalize hs4 : (sI (sI σ 66 0 (nI 0)) 66 1 (nI 0)) = σ4 at *
  have C4 : TC σ4 n B := ⟨by rw [c4 1 (by decide)]; exact hTC.1, fun j hj => by rw [c4 2 (by decide)]; exact hTC.2 j hj⟩
  obtain ⟨σ1, τ1, k, a, b, cc, d, v, e1, e2, f1, f2, P, _⟩ := p_open (τ := τ4) (L := 200) hN (by decide) hn C4 hBb (by rw [k4, if_neg (by decide), if_neg (by decide), if_neg (by decide), if_neg (by decide), if_neg (by decide), if_neg (by decide), tk_3]; exact hTM.1) (fun j hj => by rw [m4 207 (by decide)]; exact hTM.2 j hj) (by rw [k4, if_neg (by decide), if_neg (by decide), if_neg (by decide), if_neg (by decide), if_neg (by decide), if_neg (by decide), tk_5]) (by rw [k4, if_neg (by decide), if_neg (by decide), if_neg (by decide), if_neg (by decide), if_neg (by decide), if_neg (by decide), tk_4]) (by rw [k4]; rfl)
  have M1 : MqS τ τ1 := fun b b1 _ _ => ⟨(f2.1 b b1).1.trans (m4 b b1), by rw [(f2.1 b b1).2, q4]⟩
  have E : SE σ1 τ1 m0 m1 0 0 0 (fun _ => 0) := by
    refine ⟨ChN_w hC (fun b h1 h2 => ⟨by rw [(f1.1 b (by omega)).1, c4 b (by omega)], by rw [(f1.1 b (by omega)).2, l4]⟩) (M1 208 (by decide) (by decide) (by decide)).1 (M1 211 (by decide) (by decide) (by decide)).2 (M1 212 (by decide) (by decide) (by decide)).2, ⟨by rw [(f1.1 66 (by decide)).1]; exact d4.1, by rw [(f2.2 45 (by decide)).1, k4]; rfl, by decide⟩, ⟨by rw [(f1.1 66 (by decide)).1]; exact d4.2, by rw [(f2.2 44 (by decide)).1, k4]; rfl, by decide⟩, rfl, fun i hi => absurd hi (Nat.not_lt_zero _)⟩
  have S : ZS τ1 0 1 0 (fun _ => 0) := ⟨by rw [(f2.2 46 (by decide)).1, k4]; rfl, by rw [(f2.2 47 (by decide)).1, k4]; rfl, by rw [(f2.2 48 (by decide)).1, k4]; rfl, fun i hi => absurd hi (Nat.not_lt_zero _), by decide, by decide, by decide⟩
  rw [e1, bp_q, e2, bp_q]
  have ak : ∀ τ' a, τ'.1 206 16 = nI a → kFl τ' = some (-1 - nI a, τ') := fun τ' a h => by unfold kFl; rw [vl_q, h]
  rcases p_cond (k12 := k12S N) hN ⟨by decide, by decide⟩ (p_one hN 12 1 (by decide) (by decide) (by decide)) σ1 τ1 N 0 0 0 0 0 _ _ ⟨k, a, b, cc, d, v, P⟩ E S (by decide) (Or.inl rfl) (by decide) (by omega) with ⟨σ', τ', w', a', x1, x2, fl, mq⟩ | ⟨σ', t2, m', q', c', K', k2, a2, b2, cc2, d2, v2, x1, x2, E2, ⟨P2, tn⟩, S2, b1, b2, b3, mq⟩
  · rw [x1, bd_q, x2, ak _ _ fl.2.2.2.1]
    refine Or.inl ⟨σ', τ', w', a', ?_, rfl, fl, M1.trans mq⟩
    refine (jn_q _ _).trans ?_
    rw [if_pos (by decide)]
  · have q20 := E2.2.1.2.2
    obtain ⟨m3, rfl⟩ : ∃ m3, m' = m3 + 2 := ⟨m' - 2, by omega⟩
    have n0 := m_nots0 hN S2 (Or.inl rfl)
    have j0 := m_joins0 (o := 22) hN S2 (Or.inr rfl) (Or.inl rfl)
    obtain ⟨⟨_, ⟨_, _, _, c11⟩, _, _, _, z6, z15⟩, ⟨kk, _, t2', _, _, _, m11⟩, _⟩ := id P2
    have h46 := S2.1
    rw [x1, bd_q, x2, LP1 S2.2.2.1 n0, j0, bp_q, vl_q, h46, if_le0q (by omega), if_pos rfl, Bh_el P2 tn.1 tn.2, j0, bp_q]
    by_cases ok : k2 = 0 ∧ ¬ 200 < n
    · have e11 : t2.1 206 11 = 0 := by rw [m11, if_neg (fun w => ok.2 w.2), ok.1]; rfl
      refine Or.inr ⟨σ', t2, q', c', K', ?_, ?_, E2, (by omega), M1.trans mq, z6, z15⟩
      · refine (jn_q _ _).trans ?_
        unfold f_X9_atEnd
        rw [if_one, vl_q, t2', jn_q, ok.1, if_pos (by decide), vl_q, c11, decide_eq_false ok.2, if_bI, if_neg (by decide), bd_q, if_one]
      · rw [if_pos e11, f_X12_sentence_L48, if_pos (by decide)]
    · obtain ⟨σ5, τ5, e5, e6, fl, g1, g2⟩ := p_bad (w := 1) P2 (by decide)
      have n11 : ¬ t2.1 206 11 = 0 := by
        rw [m11]
        by_cases y : k2 = 0 ∧ 200 < n
        · rw [if_pos y]; decide
        · rw [if_neg y]
          intro w
          have := (nI_eq0 (a := k2) (by omega)).mp w
          omega
      have ky : Ky N t2 = some (nI 0, τ5) := by
        unfold Ky
        rw [(c_isSign (sg := 41) (by decide) P2).2, bp_q]
        refine (jn_q _ _).trans ?_
        rw [e6, bd_q, rz_0, if_bI]
        by_cases y : decide (k2 = 3 ∧ v2 = 41) = true
        · rw [if_pos y, vl_q, h46, if_pos (by decide)]
        · rw [if_neg y]
      rw [if_neg n11, ky, bd_q, if_pos (by decide), ak _ _ fl.2.2.2.1]
      refine Or.inl ⟨σ5, τ5, 1, _, ?_, rfl, fl, (M1.trans mq).trans (MqS.fk g2)⟩
      refine (jn_q _ _).trans ?_
      have ae : f_X9_atEnd σ' = some (nI 0, σ5) := by
        unfold f_X9_atEnd
        rw [vl_q, t2']
        refine (jn_q _ _).trans ?_
        rw [e5, bd_q, if_eq0 (a := k2) (by omega)]
        by_cases y : k2 = 0
        · rw [if_pos y, vl_q, c11, if_bI, if_pos (decide_eq_true (by omega)), if_pos (by decide)]
        · rw [if_neg y, if_pos (by decide)]
      rw [if_one, ae, bd_q, if_pos (by decide)]
end Sn
