/-! the line 'ship', and a line: both sides -/
def SB (τ0 σ τ : St) (h : Nat → Nat) (g m c d : Nat) (F : Nat → Int32) (x5 x19 : Int32) : Prop := DR σ τ h g ∧ h 1 = m ∧ m < 4 ∧ WdP c d ∧ σ.1 (45 + m) = F ∧ σ.2 (45 + m) 0 = l64 c ∧ τ.2 211 (20 + m) = l64 d ∧ N12 τ0 τ ∧ σ.1 26 5 = x5 ∧ τ.1 206 19 = x19
theorem SB_dbl {τ0 σ τ : St} {h : Nat → Nat} {g m c d : Nat} {F : Nat → Int32} {x5 x19 : Int32} (H : SB τ0 σ τ h g m c d F x5 x19) : DBl σ := H.1.1.2.2
theorem SB_K {τ0 σ τ σ' τ' : St} {h : Nat → Nat} {g m c d : Nat} {F : Nat → Int32} {x5 x19 : Int32} {ks ls : List Nat} (H : SB τ0 σ τ h g m c d F x5 x19) (hF : FK 1 ks σ σ') (hG : FK 206 ls τ τ') (h19 : 19 ∉ ls) (h20 : 20 ∉ ls) (h21 : 21 ∉ ls) : SB τ0 σ' τ' h g m c d F x5 x19 := by
  obtain ⟨a1, a2, a3, a4, a5, a7, a8, a9, a10, a11⟩ := H
  refine ⟨DR_K a1 hF hG h20 h21, a2, a3, a4, by rw [(hF.1 _ (by omega)).1]; exact a5, by rw [(hF.1 _ (by omega)).2]; exact a7, by rw [(hG.1 211 (by decide)).2]; exact a8, fun j hj => by rw [(hG.1 211 (by decide)).2]; exact a9 j hj, by rw [(hF.1 26 (by decide)).1]; exact a10, by rw [(hG.2 19 h19).1]; exact a11⟩
theorem SB_put {τ0 σ τ : St} {h : Nat → Nat} {g m c d f J v : Nat} {F : Nat → Int32} {x5 x19 : Int32} (H : SB τ0 σ τ h g m c d F x5 x19) (hJ : J = 131 + m ∨ J = 135 + m ∨ J = 139 + m ∨ J = 143 + m) : SB τ0 (sI σ (45 + m) f (nI v)) (sI τ 209 J (nI v)) (put h J v) g m c d (upd F f (nI v)) x5 x19 := by
  obtain ⟨a1, a2, a3, a4, a5, a7, a8, a9, a10, a11⟩ := H
  have h0 := a1.2.1.1
  have D1 : DR (sI σ (45 + m) f (nI v)) τ h g := DR_w a1 (fun b hb => ⟨sI_ne (by rcases hb with e | ⟨l, hl, e | e⟩ | ⟨k, hk, e⟩ <;> omega), rfl⟩) (DBl_w a1.1.2.2 (fun b h1 h2 => sI_ne (by omega))) rfl rfl rfl rfl (fun _ _ => rfl)
  exact ⟨DR_put D1 (Or.inr ⟨m, by omega, a3, hJ⟩), by rw [put_ne (by omega)]; exact a2, a3, a4, by rw [sI_row, a5], a7, a8, a9, by rw [sI_ne (by omega)]; exact a10, by rw [sI1, if_neg (by decide)]; exact a11⟩
theorem SB_begin {τ0 σ τ : St} {h : Nat → Nat} {g m c d : Nat} (H : DR σ τ h g) (hm : h 1 = m) (m4 : m < 4) (w : WdP c d) (hn : N12 τ0 τ) : SB τ0 (sL σ (45 + m) 0 (l64 c)) (sL τ 211 (20 + m) (l64 d)) h g m c d (σ.1 (45 + m)) (σ.1 26 5) (τ.1 206 19) := by
  have h0 := H.2.1.1
  refine ⟨DR_w H (fun b hb => ⟨rfl, sL_ne (by rcases hb with e | ⟨l, hl, e | e⟩ | ⟨k, hk, e⟩ <;> omega)⟩) H.1.2.2 rfl ?_ rfl rfl (fun j hj => ?_), hm, m4, w, rfl, ?_, ?_, fun j hj => ?_, rfl, rfl⟩
  · rw [sL_ne (by decide)]
  · rw [sL2, if_pos rfl, if_neg (by omega)]
  · rw [sL2, if_pos rfl, if_pos rfl]
  · rw [sL2, if_pos rfl, if_pos rfl]
  · rw [sL2, if_pos rfl, if_neg (by omega)]
    exact hn j hj
theorem SB_done {τ0 σ τ : St} {h : Nat → Nat} {g m c d : Nat} {F : Nat → Int32} {x5 x19 : Int32} (H : SB τ0 σ τ h g m c d F x5 x19) (w : WFs h m) (f1 : F 1 = nI (h (131 + m))) (f2 : F 2 = nI (h (135 + m))) (f3 : F 3 = nI (h (139 + m))) (f4 : F 4 = nI (h (143 + m))) : DR (sI σ 26 3 (nI (m + 1))) (sI τ 209 1 (nI (m + 1))) (put h 1 (m + 1)) g ∧ N12 τ0 (sI τ 209 1 (nI (m + 1))) ∧ (sI σ 26 3 (nI (m + 1))).1 26 5 = x5 ∧ (sI τ 209 1 (nI (m + 1))).1 206 19 = x19 := by
  obtain ⟨D, hm, m4, ww, eA, eN, eM, n12, e5, e19⟩ := H
  obtain ⟨⟨a1, a2, a3⟩, a4, ⟨b1, b2, b3⟩, ⟨c1, c2, c3⟩, c4, c5, c6, ⟨n1, n2⟩, z, z1, z2⟩ := D
  have p1 : put h 1 (m + 1) 1 = m + 1 := put_eq _ _ _
  have pn : ∀ j, j ≠ 1 → put h 1 (m + 1) j = h j := fun j hj => put_ne hj
  have ag : ∀ l, agr h (put h 1 (m + 1)) l := fun l => putL_a (by unfold idxL; omega)
  refine ⟨?_, fun j hj => n12 j hj, by rw [sI1, if_pos rfl, if_neg (by decide)]; exact e5, by rw [sI1, if_neg (by decide)]; exact e19⟩
  unfold DR
  rw [p1, pn 0 (by decide), pn 2 (by decide)]
  refine ⟨⟨fun j hj => ?_, a2, DBl_w a3 (fun b h1 h2 => sI_ne (by omega))⟩, ⟨a4.1, by omega, a4.2.2⟩, ⟨by rw [sI1, if_pos rfl, if_neg (by decide)]; exact b1, by rw [sI1, if_pos rfl, if_pos rfl], by rw [sI1, if_pos rfl, if_neg (by decide)]; exact b3⟩, ⟨by rw [sI1, if_neg (by decide)]; exact c1, c2, c3⟩, fun l hl => ?_, fun l h1 h2 => ?_, fun k hk => ?_, ⟨fun l hl => ?_, fun l hl => ?_⟩, z, by rw [sI1, if_pos rfl, if_neg (by decide)]; exact z1, by rw [sI1, if_neg (by decide)]; exact z2⟩
  · rw [sI1, if_pos rfl]
    by_cases q : j = 1
    · rw [if_pos q, q, p1]
    · rw [if_neg q, pn j q]; exact a1 j hj
  · obtain ⟨x1, x2, x3⟩ := c4 l hl
    have e26 : (sI σ 26 3 (nI (m + 1))).1 (29 + 2 * l) = σ.1 (29 + 2 * l) := sI_ne (by omega)
    have e27 : (sI σ 26 3 (nI (m + 1))).1 (30 + 2 * l) = σ.1 (30 + 2 * l) := sI_ne (by omega)
    exact ⟨WFl_a (ag l) x1, LRel_a (ag l) x1.2.2.2.2.2.1 (LRel_w (by omega) e26 e27 x2), by rw [e26]; exact x3⟩
  · rw [pn _ (by omega), pn _ (by omega), pn _ (by omega)]
    exact c5 l h1 h2
  · have e : (sI σ 26 3 (nI (m + 1))).1 (45 + k) = σ.1 (45 + k) := sI_ne (by omega)
    unfold WFs HRel at *
    rw [pn (131 + k) (by omega), pn (135 + k) (by omega), pn (139 + k) (by omega), pn (143 + k) (by omega), e]
    by_cases q : k = m
    · subst q
      rw [eA]
      exact ⟨w, f1, f2, f3, f4⟩
    · exact c6 k (by omega)
  · exact n1 l hl
  · by_cases q : l = m
    · subst q
      exact ⟨c, d, ww, by rw [d28 m4]; exact eN, eM⟩
    · exact n2 l (by omega)
section ReadShip
variable {σ τ : St} {N n L k a b c d v g : Nat} {h B : Nat → Nat}
theorem p_readShip (hN : 1000 ≤ N) (H : PR σ τ n L B k a b c d v) (hk : k = 1) (D : DR σ τ h g) : LnE σ τ n L B b (f_X1_readShip N 26 σ) (f_X12_readShip N τ) := by
  obtain ⟨⟨a1, a2, a3⟩, a4, ⟨b1, b2, b3⟩, _⟩ := id D
  unfold f_X1_readShip f_X12_readShip
  rw [vl_q, b2, ald_q (by decide) (by decide), a1 1 (by decide), if_ltq (by omega) (by decide), if_eqq (by omega) (by decide)]
  by_cases m4 : h 1 < 4
  · rw [if_pos m4, if_neg (by omega)]
    obtain ⟨σ1, τ1, e1, e2, f1, f2, k1, aa1, bb1, cc1, dd1, v1, P1, l1⟩ := p_next hN H (Or.inl hk)
    have D1 := DR_K D f1 f2 (by decide) (by decide)
    have n1 : N12 τ τ1 := fun j _ => by rw [(f2.1 211 (by decide)).2]
    obtain ⟨⟨a1', a2', a3'⟩, a4', ⟨b1', b2', b3'⟩, _, _, _, _, ⟨nn1, nn2⟩, _⟩ := id D1
    have x5 : σ1.1 26 5 = σ.1 26 5 := by rw [(f1.1 26 (by decide)).1]
    have x19 : τ1.1 206 19 = τ.1 206 19 := (f2.2 19 (by decide)).1
    rw [e1, e2, bp_q, bp_q, nI_addq]
    rcases p_fresh (ch := 26) (to := 20 + h 1) hN a2' P1 b1' a4'.1 (by rw [d26.1]; exact nn1) b2' a4'.2.1 (by rw [d26.2]; exact nn2) (a1' 0 (by decide)) (a1' 1 (by decide)) (by omega) with bad | ⟨kk1, c1, c3, w, m1⟩
    · exact LnE_bad bad n1 (fun s e => by rw [e, bd_q, if_pos (by decide)]) (fun s e => by rw [e, bd_q, if_pos (by decide)])
    have SB0 := SB_begin (τ0 := τ) D1 rfl m4 w n1
    rw [x5, x19] at SB0
    have P2 : PR (sL σ1 (45 + h 1) 0 (l64 cc1)) (sL τ1 211 (20 + h 1) (l64 dd1)) n L B k1 aa1 bb1 cc1 dd1 v1 := PR_c P1 rfl rfl (sL_ne (by omega)) rfl rfl (sL_ne (by decide))
    obtain ⟨σ3, τ3, g1, g2, f3, f4, k3, aa3, bb3, cc3, dd3, v3, P3, l3⟩ := p_next hN P2 (Or.inl kk1)
    have SB1 := SB_K SB0 f3 f4 (by decide) (by decide) (by decide)
    rw [c1, bd_q, if_neg (by decide), vl_q, b2', d26.2, ald_q (by omega) (by decide), d28 m4, vl_q, c3, vl_q, g1, bp_q, m1, g2, bp_q, bd_q, if_neg (by decide), nI_addq, nI_addq, nI_addq, nI_addq]
    -- COL
    rcases p_puts (lo := 0) (hi := 19) (j := 131 + h 1) hN (by decide) (by decide) (by omega) P3 with bad | ⟨_, u1, σ4, τ4, q1, q2, ⟨kk3, ad4, ff3, ff4⟩, t5⟩
    · exact LnE_bad bad SB1.2.2.2.2.2.2.2.1 (fun s e => by rw [e, bd_q, if_pos (by decide)]) (fun s e => by rw [e, bd_q, if_pos (by decide)])
    have SB2 := SB_put (f := 1) (J := 131 + h 1) (v := v3) (SB_K SB1 ff3 ff4 (by decide) (by decide) (by decide)) (Or.inl rfl)
    have ad4' := AdvT_c ad4 (σ' := sI σ4 (45 + h 1) 1 (nI v3)) (τ' := sI τ4 209 (131 + h 1) (nI v3)) (sI_ne (by omega)) (sI_ne (by omega)) rfl (sI_ne (by decide)) (sI_ne (by decide)) rfl
    obtain ⟨k4, aa4, bb4, cc4, dd4, v4, P4, l4⟩ := ad4'
    rw [q1, bd_q, if_neg (by decide), vl_q, t5, vl_q, q2, bd_q, if_neg (by decide)]
    -- ROW
    rcases p_puts (lo := 0) (hi := 19) (j := 135 + h 1) hN (by decide) (by decide) (by omega) P4 with bad | ⟨_, u2, σ5, τ5, q3, q4, ⟨kk4, ad5, ff5, ff6⟩, t6⟩
    · exact LnE_bad bad SB2.2.2.2.2.2.2.2.1 (fun s e => by rw [e, bd_q, if_pos (by decide)]) (fun s e => by rw [e, bd_q, if_pos (by decide)])
    have SB3 := SB_put (f := 2) (J := 135 + h 1) (v := v4) (SB_K SB2 ff5 ff6 (by decide) (by decide) (by decide)) (Or.inr (Or.inl rfl))
    have ad5' := AdvT_c ad5 (σ' := sI σ5 (45 + h 1) 2 (nI v4)) (τ' := sI τ5 209 (135 + h 1) (nI v4)) (sI_ne (by omega)) (sI_ne (by omega)) rfl (sI_ne (by decide)) (sI_ne (by decide)) rfl
    obtain ⟨k5, aa5, bb5, cc5, dd5, v5, P5, l5⟩ := ad5'
    rw [q3, bd_q, if_neg (by decide), vl_q, t6, vl_q, q4, bd_q, if_neg (by decide)]
    -- HEADING
    rcases p_puts (lo := 0) (hi := 8) (j := 139 + h 1) hN (by decide) (by decide) (by omega) P5 with bad | ⟨_, u3, σ6, τ6, q5, q6, ⟨kk5, ad6, ff7, ff8⟩, t7⟩
    · exact LnE_bad bad SB3.2.2.2.2.2.2.2.1 (fun s e => by rw [e, bd_q, if_pos (by decide)]) (fun s e => by rw [e, bd_q, if_pos (by decide)])
    have SB4 := SB_put (f := 3) (J := 139 + h 1) (v := v5) (SB_K SB3 ff7 ff8 (by decide) (by decide) (by decide)) (Or.inr (Or.inr (Or.inl rfl)))
    have ad6' := AdvT_c ad6 (σ' := sI σ6 (45 + h 1) 3 (nI v5)) (τ' := sI τ6 209 (139 + h 1) (nI v5)) (sI_ne (by omega)) (sI_ne (by omega)) rfl (sI_ne (by decide)) (sI_ne (by decide)) rfl
    obtain ⟨k6, aa6, bb6, cc6, dd6, v6, P6, l6⟩ := ad6'
    rw [q5, bd_q, if_neg (by decide), vl_q, t7, vl_q, q6, bd_q, if_neg (by decide)]
    -- PACE
    rcases p_puts (lo := 1) (hi := 60) (j := 143 + h 1) hN (by decide) (by decide) (by omega) P6 with bad | ⟨u4, u4', σ7, τ7, q7, q8, ⟨kk6, ad7, ff9, ff10⟩, t8⟩
    · exact LnE_bad bad SB4.2.2.2.2.2.2.2.1 (fun s e => by rw [e, bd_q, if_pos (by decide)]) (fun s e => by rw [e, bd_q, if_pos (by decide)])
    have SB5 := SB_put (f := 4) (J := 143 + h 1) (v := v6) (SB_K SB4 ff9 ff10 (by decide) (by decide) (by decide)) (Or.inr (Or.inr (Or.inr rfl)))
    have h4 := a4.2.1
    have wf : WFs (put (put (put (put h (131 + h 1) v3) (135 + h 1) v4) (139 + h 1) v5) (143 + h 1) v6) (h 1) := by
      unfold WFs
      rw [put_eq, put_ne (by omega), put_ne (by omega), put_ne (by omega), put_eq, put_ne (by omega), put_ne (by omega), put_eq, put_ne (by omega), put_eq]
      exact ⟨u1, u2, u3, u4, u4'⟩
    obtain ⟨r1, r2, r3, r4⟩ := SB_done SB5 wf (by rw [put_ne (by omega), put_ne (by omega), put_ne (by omega), put_eq]; rfl) (by rw [put_ne (by omega), put_ne (by omega), put_eq]; rfl) (by rw [put_ne (by omega), put_eq]; rfl) (by rw [put_eq]; rfl)
    have ad10 := AdvT_c ad7 (σ' := sI (sI σ7 (45 + h 1) 4 (nI v6)) 26 3 (nI (h 1 + 1))) (τ' := sI (sI τ7 209 (143 + h 1) (nI v6)) 209 1 (nI (h 1 + 1))) ((sI_ne (by omega)).trans (sI_ne (by omega))) ((sI_ne (by omega)).trans (sI_ne (by omega))) rfl ((sI_ne (by decide)).trans (sI_ne (by decide))) ((sI_ne (by decide)).trans (sI_ne (by decide))) rfl
    have bq : b ≤ bb6 := by
      have := l1 (Or.inl kk1)
      have := l3 (Or.inr (Or.inl kk3))
      have := l4 (Or.inr (Or.inl kk4))
      have := l5 (Or.inr (Or.inl kk5))
      have := l6 (Or.inr (Or.inl kk6))
      omega
    refine Or.inr ⟨_, _, _, g, ?_, ?_, r1, AdvT_mono ad10 bq, r2, r3, r4⟩
    · have c26 : (sI σ7 (45 + h 1) 4 (nI v6)).1 26 3 = nI (h 1) := by
        have := SB5.1.2.2.1.2.1
        rw [put_ne (by omega), put_ne (by omega), put_ne (by omega), put_ne (by omega)] at this
        exact this
      rw [q7, bd_q, if_neg (by decide), vl_q, t8, vl_q, vl_q, c26, nI_addq, vl_q]
    · have c0 : (sI τ7 209 (143 + h 1) (nI v6)).1 209 1 = nI (h 1) := by
        have := SB5.1.1.1 1 (by decide)
        rw [put_ne (by omega), put_ne (by omega), put_ne (by omega), put_ne (by omega)] at this
        exact this
      rw [q8, bd_q, if_neg (by decide), ald_q (by decide) (by decide), c0, nI_addq, ald_q (by decide) (by decide)]
  · rw [if_neg m4, if_pos (by omega)]
    exact LnE_bad (p_bad2 (w := 4) H (by decide) (fun s e => e) (fun s e => e)) (fun j _ => rfl) (fun s e => by rw [e, bd_q, rz_0]) (fun s e => by rw [e, bd_q, rz_0])
theorem LnE_rzc {x y : Option (Int32 × St)} {b0 : Nat} (h : LnE σ τ n L B b0 x y) : LnE σ τ n L B b0 (bd x fun v s => rz v (some (v, s))) y := by
  rcases h with ⟨σ', τ', w, a, e1, e2, r⟩ | ⟨σ', τ', h', g', e1, e2, r⟩
  · exact Or.inl ⟨σ', τ', w, a, by rw [e1, bd_q, rz_0], e2, r⟩
  · exact Or.inr ⟨σ', τ', h', g', by rw [e1, bd_q, rz_1], e2, r⟩
theorem LnE_rzm {x y : Option (Int32 × St)} {b0 : Nat} (h : LnE σ τ n L B b0 x y) : LnE σ τ n L B b0 x (bd y fun v s => rz v (some (v, s))) := by
  rcases h with ⟨σ', τ', w, a, e1, e2, r⟩ | ⟨σ', τ', h', g', e1, e2, r⟩
  · exact Or.inl ⟨σ', τ', w, a, e1, by rw [e2, bd_q, rz_0], r⟩
  · exact Or.inr ⟨σ', τ', h', g', e1, by rw [e2, bd_q, rz_1], r⟩
theorem p_readLine (hN : 1000 ≤ N) (H : PR σ τ n L B k a b c d v) (D : DR σ τ h g) : LnE σ τ n L B b (f_X1_readLine N 26 σ) (f_X12_readLine N τ) := by
  unfold f_X1_readLine f_X12_readLine
  rw [c_is (i := 0) (by decide) H, m_is (i := 0) (x := 465624852596) (by decide) (by decide) H, bp_q, bp_q, if_bI, if_bI]
  by_cases x0 : k = 1 ∧ c = rvC 0
  · rw [if_pos (decide_eq_true x0), if_pos (decide_eq_true x0)]
    exact LnE_rzc (LnE_rzm (p_readLight hN H x0.1 D))
  rw [if_neg (fun w => x0 (of_decide_eq_true w)), if_neg (fun w => x0 (of_decide_eq_true w)), c_is (i := 1) (by decide) H, m_is (i := 1) (x := 439904990056) (by decide) (by decide) H, bp_q, bp_q, if_bI, if_bI]
  by_cases x1 : k = 1 ∧ c = rvC 1
  · rw [if_pos (decide_eq_true x1), if_pos (decide_eq_true x1)]
    exact LnE_rzc (LnE_rzm (p_readFlash hN H x1.1 D))
  rw [if_neg (fun w => x1 (of_decide_eq_true w)), if_neg (fun w => x1 (of_decide_eq_true w)), c_is (i := 2) (by decide) H, m_is (i := 2) (x := 1718775661) (by decide) (by decide) H, bp_q, bp_q, if_bI, if_bI]
  by_cases x2 : k = 1 ∧ c = rvC 2
  · rw [if_pos (decide_eq_true x2), if_pos (decide_eq_true x2)]
    exact LnE_rzc (LnE_rzm (p_readFrom hN H x2.1 D))
  rw [if_neg (fun w => x2 (of_decide_eq_true w)), if_neg (fun w => x2 (of_decide_eq_true w)), c_is (i := 3) (by decide) H, m_is (i := 3) (x := 1684107883) (by decide) (by decide) H, bp_q, bp_q, if_bI, if_bI]
  by_cases x3 : k = 1 ∧ c = rvC 3
  · rw [if_pos (decide_eq_true x3), if_pos (decide_eq_true x3)]
    exact LnE_rzc (LnE_rzm (p_readDark hN H x3.1 D))
  rw [if_neg (fun w => x3 (of_decide_eq_true w)), if_neg (fun w => x3 (of_decide_eq_true w)), c_is (i := 4) (by decide) H, m_is (i := 4) (x := 1936222576) (by decide) (by decide) H, bp_q, bp_q, if_bI, if_bI]
  by_cases x4 : k = 1 ∧ c = rvC 4
  · rw [if_pos (decide_eq_true x4), if_pos (decide_eq_true x4)]
    exact LnE_rzc (LnE_rzm (p_readShip hN H x4.1 D))
  rw [if_neg (fun w => x4 (of_decide_eq_true w)), if_neg (fun w => x4 (of_decide_eq_true w)), c_is (i := 5) (by decide) H, m_is (i := 5) (x := 1751218789) (by decide) (by decide) H, bp_q, bp_q, if_bI, if_bI]
  by_cases x5 : k = 1 ∧ c = rvC 5
  · rw [if_pos (decide_eq_true x5), if_pos (decide_eq_true x5)]
    exact LnE_rzc (p_readHaze hN H x5.1 D)
  rw [if_neg (fun w => x5 (of_decide_eq_true w)), if_neg (fun w => x5 (of_decide_eq_true w))]
  exact LnE_bad (p_bad2 (w := 1) H (by decide) (fun s e => e) (fun s e => e)) (fun j _ => rfl) (fun s e => by rw [e, bd_q, rz_0]) (fun s e => by rw [e, bd_q, rz_0])
end ReadShip
