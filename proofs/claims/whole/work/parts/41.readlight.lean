/-! the line 'light': both sides -/
/-- a light is being told: the class's cell holds F -/
def LB (τ0 σ τ : St) (h : Nat → Nat) (g m c d : Nat) (F : Nat → Int32) (x5 x19 : Int32) : Prop := DR σ τ h g ∧ h 0 = m ∧ m < 8 ∧ WdP c d ∧ σ.1 (29 + 2 * m) = F ∧ σ.1 (30 + 2 * m) 0 = nI 1 ∧ σ.2 (29 + 2 * m) 0 = l64 c ∧ τ.2 211 (12 + m) = l64 d ∧ N12 τ0 τ ∧ σ.1 26 5 = x5 ∧ τ.1 206 19 = x19
theorem LB_dbl {τ0 σ τ : St} {h : Nat → Nat} {g m c d : Nat} {F : Nat → Int32} {x5 x19 : Int32} (H : LB τ0 σ τ h g m c d F x5 x19) : DBl σ := H.1.1.2.2
theorem LB_K {τ0 σ τ σ' τ' : St} {h : Nat → Nat} {g m c d : Nat} {F : Nat → Int32} {x5 x19 : Int32} {ks ls : List Nat} (H : LB τ0 σ τ h g m c d F x5 x19) (hF : FK 1 ks σ σ') (hG : FK 206 ls τ τ') (h19 : 19 ∉ ls) (h20 : 20 ∉ ls) (h21 : 21 ∉ ls) : LB τ0 σ' τ' h g m c d F x5 x19 := by
  obtain ⟨a1, a2, a3, a4, a5, a6, a7, a8, a9, a10, a11⟩ := H
  refine ⟨DR_K a1 hF hG h20 h21, a2, a3, a4, by rw [(hF.1 _ (by omega)).1]; exact a5, by rw [(hF.1 _ (by omega)).1]; exact a6, by rw [(hF.1 _ (by omega)).2]; exact a7, by rw [(hG.1 211 (by decide)).2]; exact a8, fun j hj => by rw [(hG.1 211 (by decide)).2]; exact a9 j hj, by rw [(hF.1 26 (by decide)).1]; exact a10, by rw [(hG.2 19 h19).1]; exact a11⟩
theorem sI_row {σ : St} {a k : Nat} {v : Int32} : (sI σ a k v).1 a = upd (σ.1 a) k v := sI_eq
/-- a field of its own is told, in both -/
theorem LB_put {τ0 σ τ : St} {h : Nat → Nat} {g m c d f J v : Nat} {F : Nat → Int32} {x5 x19 : Int32} (H : LB τ0 σ τ h g m c d F x5 x19) (hf : f ≠ 7) (hJ : J = 3 + m ∨ J = 11 + m ∨ J = 19 + m ∨ J = 27 + m ∨ J = 35 + m) : LB τ0 (sI σ (29 + 2 * m) f (nI v)) (sI τ 209 J (nI v)) (put h J v) g m c d (upd F f (nI v)) x5 x19 := by
  obtain ⟨a1, a2, a3, a4, a5, a6, a7, a8, a9, a10, a11⟩ := H
  have hB : DBl (sI σ (29 + 2 * m) f (nI v)) := fun l hl => by
    have := a1.1.2.2 l hl
    refine ⟨?_, fun p hp => by rw [sI_ne (by omega)]; exact this.2 p hp⟩
    rw [sI1]
    by_cases q : 29 + 2 * l = 29 + 2 * m
    · rw [if_pos q, if_neg (by omega), ← q]; exact this.1
    · rw [if_neg q]; exact this.1
  have D1 : DR (sI σ (29 + 2 * m) f (nI v)) τ h g := DR_w a1 (fun b hb => ⟨sI_ne (by
    rcases hb with e | ⟨l, hl, e | e⟩ | ⟨k, hk, e⟩
    · omega
    · omega
    · omega
    · have := a1.2.1.2.1; omega), rfl⟩) hB rfl rfl rfl rfl (fun _ _ => rfl)
  refine ⟨DR_put D1 (Or.inl ⟨m, by omega, a3, hJ⟩), by rw [put_ne (by omega)]; exact a2, a3, a4, by rw [sI_row, a5], by rw [sI_ne (by omega)]; exact a6, a7, a8, a9, by rw [sI_ne (by omega)]; exact a10, by rw [sI1, if_neg (by decide)]; exact a11⟩
theorem LB_begin {τ0 σ τ : St} {h : Nat → Nat} {g m c d : Nat} (H : DR σ τ h g) (hm : h 0 = m) (m8 : m < 8) (w : WdP c d) (hn : N12 τ0 τ) : ∃ σ' F, f_X4_begin (29 + 2 * m) (l64 c) σ = some σ' ∧ LB τ0 σ' (sL τ 211 (12 + m) (l64 d)) h g m c d F (σ.1 26 5) (τ.1 206 19) ∧ (F 6 = nI 0 ∧ F 7 = nI 0 ∧ F 8 = nI 0 ∧ F 9 = nI 0 ∧ F 10 = nI 1) ∧ σ'.1 1 = σ.1 1 ∧ σ'.1 2 = σ.1 2 ∧ σ'.2 1 = σ.2 1 := by
  have hc := H.2.1
  have eR : ∀ b, b ≠ 29 + 2 * m → b ≠ 30 + 2 * m → (sI (sI (sI (sI (sI (sI (sL σ (29 + 2 * m) 0 (l64 c)) (29 + 2 * m) 6 (nI 0)) (29 + 2 * m) 7 (nI 0)) (29 + 2 * m) 8 (nI 0)) (29 + 2 * m) 9 (nI 0)) (29 + 2 * m) 10 (nI 1)) (30 + 2 * m) 0 (nI 1)).1 b = σ.1 b := fun b h1 h2 => by
    rw [sI_ne h2, sI_ne h1, sI_ne h1, sI_ne h1, sI_ne h1, sI_ne h1]; rfl
  have e2 : ∀ b, b ≠ 29 + 2 * m → (sL σ (29 + 2 * m) 0 (l64 c)).2 b = σ.2 b := fun b h1 => sL_ne h1
  have eA : (sI (sI (sI (sI (sI (sI (sL σ (29 + 2 * m) 0 (l64 c)) (29 + 2 * m) 6 (nI 0)) (29 + 2 * m) 7 (nI 0)) (29 + 2 * m) 8 (nI 0)) (29 + 2 * m) 9 (nI 0)) (29 + 2 * m) 10 (nI 1)) (30 + 2 * m) 0 (nI 1)).1 (29 + 2 * m) = upd (upd (upd (upd (upd (σ.1 (29 + 2 * m)) 6 (nI 0)) 7 (nI 0)) 8 (nI 0)) 9 (nI 0)) 10 (nI 1) := by
    rw [sI_ne (by omega), sI_row, sI_row, sI_row, sI_row, sI_row]; rfl
  have eP : ∀ p, (sI (sI (sI (sI (sI (sI (sL σ (29 + 2 * m) 0 (l64 c)) (29 + 2 * m) 6 (nI 0)) (29 + 2 * m) 7 (nI 0)) (29 + 2 * m) 8 (nI 0)) (29 + 2 * m) 9 (nI 0)) (29 + 2 * m) 10 (nI 1)) (30 + 2 * m) 0 (nI 1)).1 (30 + 2 * m) p = if p = 0 then nI 1 else σ.1 (30 + 2 * m) p := fun p => by
    rw [sI1, if_pos rfl, sI_ne (by omega), sI_ne (by omega), sI_ne (by omega), sI_ne (by omega), sI_ne (by omega)]; rfl
  have run : f_X4_begin (29 + 2 * m) (l64 c) σ = some (sI (sI (sI (sI (sI (sI (sL σ (29 + 2 * m) 0 (l64 c)) (29 + 2 * m) 6 (nI 0)) (29 + 2 * m) 7 (nI 0)) (29 + 2 * m) 8 (nI 0)) (29 + 2 * m) 9 (nI 0)) (29 + 2 * m) 10 (nI 1)) (30 + 2 * m) 0 (nI 1)) := by
    unfold f_X4_begin
    simp only [vl_q]
    rw [ald_q (by decide) (by decide), d27r m8, show nI 1 &&& 1 = nI 1 from by decide]
  have hB : DBl (sI (sI (sI (sI (sI (sI (sL σ (29 + 2 * m) 0 (l64 c)) (29 + 2 * m) 6 (nI 0)) (29 + 2 * m) 7 (nI 0)) (29 + 2 * m) 8 (nI 0)) (29 + 2 * m) 9 (nI 0)) (29 + 2 * m) 10 (nI 1)) (30 + 2 * m) 0 (nI 1)) := fun l hl => by
    have q := H.1.2.2 l hl
    by_cases e : l = m
    · subst e
      refine ⟨Or.inl (by rw [eA]; rfl), fun p hp => ?_⟩
      rw [eP]
      by_cases z : p = 0
      · rw [if_pos z]; exact Or.inr rfl
      · rw [if_neg z]; exact q.2 p hp
    · rw [eR _ (by omega) (by omega), eR _ (by omega) (by omega)]
      exact q
  refine ⟨_, _, run, ⟨DR_w H (fun b hb => ?_) hB rfl ?_ rfl rfl (fun j hj => ?_), hm, m8, w, eA, ?_, ?_, ?_, ?_, ?_, rfl⟩, ⟨rfl, rfl, rfl, rfl, rfl⟩, ?_, ?_, ?_⟩
  · have hb1 : b ≠ 29 + 2 * m ∧ b ≠ 30 + 2 * m := by
      rcases hb with e | ⟨l, hl, e | e⟩ | ⟨k, hk, e⟩ <;> omega
    exact ⟨eR b hb1.1 hb1.2, e2 b hb1.1⟩
  · rw [sL_ne (by decide)]
  · rw [sL2, if_pos rfl, if_neg (by omega)]
  · rw [eP, if_pos rfl]
  · show (sL σ (29 + 2 * m) 0 (l64 c)).2 (29 + 2 * m) 0 = l64 c
    rw [sL2, if_pos rfl, if_pos rfl]
  · rw [sL2, if_pos rfl, if_pos rfl]
  · intro j hj
    rw [sL2, if_pos rfl, if_neg (by omega)]
    exact hn j hj
  · rw [eR 26 (by omega) (by omega)]
  · exact eR 1 (by omega) (by omega)
  · exact eR 2 (by omega) (by omega)
  · exact e2 1 (by omega)
theorem c_colour {σ τ : St} {n L k a b c d v : Nat} {B : Nat → Nat} (h : PR σ τ n L B k a b c d v) : ∃ cl, cl ≤ 3 ∧ f_X1_colourAt σ = some (nI cl) ∧ (cl ≠ 0 → k = 1) ∧ ∀ (j : Int32 → Option (Int32 × St)), (bp (f_X12_isWord (512852849765 : Int64) τ) fun v13 => if v13 = 0 then bp (f_X12_isWord (7497060 : Int64) τ) fun v24 => if v24 = 0 then bp (f_X12_isWord (444300879214 : Int64) τ) fun v25 => if v25 = 0 then j (nI 0) else j (nI 3) else j (nI 2) else j (nI 1)) = j (nI cl) := by
  have c6 := c_is (i := 6) (by decide) h
  have c7 := c_is (i := 7) (by decide) h
  have c8 := c_is (i := 8) (by decide) h
  have m6 := m_is (i := 6) (x := (512852849765 : Int64)) (by decide) (by decide) h
  have m7 := m_is (i := 7) (x := (7497060 : Int64)) (by decide) (by decide) h
  have m8 := m_is (i := 8) (x := (444300879214 : Int64)) (by decide) (by decide) h
  unfold f_X1_colourAt
  rw [c6, c7, c8, m6, m7, m8, bp_q, bp_q, bp_q, if_bI, if_bI, if_bI]
  by_cases x6 : k = 1 ∧ c = rvC 6
  · refine ⟨1, by decide, by rw [if_pos (decide_eq_true x6)], fun _ => x6.1, fun j => ?_⟩
    rw [bp_q, if_bI, if_pos (decide_eq_true x6)]
  by_cases x7 : k = 1 ∧ c = rvC 7
  · refine ⟨2, by decide, by rw [if_neg (fun w => x6 (of_decide_eq_true w)), if_pos (decide_eq_true x7)], fun _ => x7.1, fun j => ?_⟩
    rw [bp_q, if_bI, if_neg (fun w => x6 (of_decide_eq_true w)), bp_q, if_bI, if_pos (decide_eq_true x7)]
  by_cases x8 : k = 1 ∧ c = rvC 8
  · refine ⟨3, by decide, by rw [if_neg (fun w => x6 (of_decide_eq_true w)), if_neg (fun w => x7 (of_decide_eq_true w)), if_pos (decide_eq_true x8)], fun _ => x8.1, fun j => ?_⟩
    rw [bp_q, if_bI, if_neg (fun w => x6 (of_decide_eq_true w)), bp_q, if_bI, if_neg (fun w => x7 (of_decide_eq_true w)), bp_q, if_bI, if_pos (decide_eq_true x8)]
  · refine ⟨0, by decide, by rw [if_neg (fun w => x6 (of_decide_eq_true w)), if_neg (fun w => x7 (of_decide_eq_true w)), if_neg (fun w => x8 (of_decide_eq_true w))], fun w => absurd rfl w, fun j => ?_⟩
    rw [bp_q, if_bI, if_neg (fun w => x6 (of_decide_eq_true w)), bp_q, if_bI, if_neg (fun w => x7 (of_decide_eq_true w)), bp_q, if_bI, if_neg (fun w => x8 (of_decide_eq_true w))]
/-- the light is told: it counts -/
theorem LB_done {τ0 σ τ : St} {h : Nat → Nat} {g m c d : Nat} {F : Nat → Int32} {x5 x19 : Int32} (H : LB τ0 σ τ h g m c d F x5 x19) (w1 : h (3 + m) ≤ 19) (w2 : h (11 + m) ≤ 19) (w3 : 1 ≤ h (19 + m) ∧ h (19 + m) ≤ 30) (w4 : 1 ≤ h (27 + m) ∧ h (27 + m) ≤ 3) (w5 : h (35 + m) ≤ 999) (f1 : F 1 = nI (h (3 + m))) (f2 : F 2 = nI (h (11 + m))) (f3 : F 3 = nI (h (19 + m))) (f4 : F 4 = nI (h (27 + m))) (f5 : F 5 = nI (h (35 + m))) (f6 : F 6 = nI 0) (f7 : F 7 = nI 0) (f8 : F 8 = nI 0) (f9 : F 9 = nI 0) (f10 : F 10 = nI 1) : DR (sI σ 26 2 (nI (m + 1))) (sI τ 209 0 (nI (m + 1))) (put h 0 (m + 1)) g ∧ N12 τ0 (sI τ 209 0 (nI (m + 1))) ∧ (sI σ 26 2 (nI (m + 1))).1 26 5 = x5 ∧ (sI τ 209 0 (nI (m + 1))).1 206 19 = x19 := by
  obtain ⟨D, hm, m8, w, eA, eP, eN, eM, n12, e5, e19⟩ := H
  obtain ⟨⟨a1, a2, a3⟩, a4, ⟨b1, b2, b3⟩, ⟨c1, c2, c3⟩, c4, c5, c6, ⟨n1, n2⟩, z, z1, z2⟩ := D
  have z43 := c5 m (by omega) m8
  have p0 : put h 0 (m + 1) 0 = m + 1 := put_eq _ _ _
  have pn : ∀ j, j ≠ 0 → put h 0 (m + 1) j = h j := fun j hj => put_ne hj
  have ag : ∀ l, agr h (put h 0 (m + 1)) l := fun l => putL_a (by unfold idxL; omega)
  have per : perS h m = 1 := by
    unfold perS
    rw [z43.1]; rfl
  have gm : g / 2 ^ m = 0 := Nat.div_eq_of_lt (by rw [← hm]; exact c2)
  refine ⟨?_, fun j hj => n12 j hj, by rw [sI1, if_pos rfl, if_neg (by decide)]; exact e5, by rw [sI1, if_neg (by decide)]; exact e19⟩
  unfold DR
  rw [p0, pn 1 (by decide), pn 2 (by decide)]
  refine ⟨⟨fun j hj => ?_, a2, DBl_w a3 (fun b h1 h2 => sI_ne (by omega))⟩, ⟨by omega, a4.2⟩, ⟨by rw [sI1, if_pos rfl, if_pos rfl], by rw [sI1, if_pos rfl, if_neg (by decide)]; exact b2, by rw [sI1, if_pos rfl, if_neg (by decide)]; exact b3⟩, ⟨by rw [sI1, if_neg (by decide)]; exact c1, ?_, c3⟩, fun l hl => ?_, fun l h1 h2 => ?_, fun k hk => ?_, ⟨fun l hl => ?_, fun l hl => ?_⟩, z, by rw [sI1, if_pos rfl, if_neg (by decide)]; exact z1, by rw [sI1, if_neg (by decide)]; exact z2⟩
  · rw [sI1, if_pos rfl]
    by_cases q : j = 0
    · rw [if_pos q, q, p0]
    · rw [if_neg q, pn j q]; exact a1 j hj
  · rw [hm] at c2; rw [Nat.pow_succ]; omega
  · have e26 : (sI σ 26 2 (nI (m + 1))).1 (29 + 2 * l) = σ.1 (29 + 2 * l) := sI_ne (by omega)
    have e27 : (sI σ 26 2 (nI (m + 1))).1 (30 + 2 * l) = σ.1 (30 + 2 * l) := sI_ne (by omega)
    by_cases q : l = m
    · subst q
      have wf : WFl h l := ⟨w1, w2, w3, w4, w5, by omega, fun k hk => by omega, by omega, by omega⟩
      refine ⟨WFl_a (ag l) wf, LRel_a (ag l) (by omega) ?_, ?_⟩
      · refine LRel_w (by omega) e26 e27 ?_
        unfold LRel
        rw [d27r m8, eA, per]
        refine ⟨f1, f2, f3, f4, f5, by rw [f6, z43.2.1], by rw [f8, z43.2.2], by rw [f9, z43.1], f10, fun p hp => ?_⟩
        obtain rfl : p = 0 := by omega
        rw [eP]
        unfold onS
        rw [if_pos z43.1]; rfl
      · rw [e26, eA, f7, gm]
    · obtain ⟨x1, x2, x3⟩ := c4 l (by omega)
      exact ⟨WFl_a (ag l) x1, LRel_a (ag l) x1.2.2.2.2.2.1 (LRel_w (by omega) e26 e27 x2), by rw [e26]; exact x3⟩
  · rw [pn _ (by omega), pn _ (by omega), pn _ (by omega)]
    exact c5 l (by omega) h2
  · obtain ⟨x1, x2⟩ := c6 k hk
    unfold WFs HRel at *
    rw [pn (131 + k) (by omega), pn (135 + k) (by omega), pn (139 + k) (by omega), pn (143 + k) (by omega), sI_ne (show 45 + k ≠ 26 by omega)]
    exact ⟨x1, x2⟩
  · by_cases q : l = m
    · subst q
      exact ⟨c, d, w, by rw [d27 m8]; exact eN, eM⟩
    · exact n1 l (by omega)
  · exact n2 l hl
section ReadLight
variable {σ τ : St} {N n L k a b c d v g : Nat} {h B : Nat → Nat}
theorem p_readLight (hN : 1000 ≤ N) (H : PR σ τ n L B k a b c d v) (hk : k = 1) (D : DR σ τ h g) : LnE σ τ n L B b (f_X1_readLight N 26 σ) (f_X12_readLight N τ) := by
  obtain ⟨⟨a1, a2, a3⟩, a4, ⟨b1, b2, b3⟩, _⟩ := id D
  unfold f_X1_readLight f_X12_readLight
  rw [vl_q, b1, ald_q (by decide) (by decide), a1 0 (by decide), if_ltq (by omega) (by decide), if_eqq (by omega) (by decide)]
  by_cases m8 : h 0 < 8
  · rw [if_pos m8, if_neg (by omega)]
    obtain ⟨σ1, τ1, e1, e2, f1, f2, k1, aa1, bb1, cc1, dd1, v1, P1, l1⟩ := p_next hN H (Or.inl hk)
    have D1 := DR_K D f1 f2 (by decide) (by decide)
    have n1 : N12 τ τ1 := fun j _ => by rw [(f2.1 211 (by decide)).2]
    obtain ⟨⟨a1', a2', a3'⟩, a4', ⟨b1', b2', b3'⟩, _, _, _, _, ⟨nn1, nn2⟩, _⟩ := id D1
    have x5 : σ1.1 26 5 = σ.1 26 5 := by rw [(f1.1 26 (by decide)).1]
    have x19 : τ1.1 206 19 = τ.1 206 19 := (f2.2 19 (by decide)).1
    rw [e1, e2, bp_q, bp_q, nI_addq]
    rcases p_fresh (ch := 26) (to := 12 + h 0) hN a2' P1 b1' a4'.1 (by rw [d26.1]; exact nn1) b2' a4'.2.1 (by rw [d26.2]; exact nn2) (a1' 0 (by decide)) (a1' 1 (by decide)) (by omega) with bad | ⟨kk1, c1, c3, w, m1⟩
    · exact LnE_bad bad n1 (fun s e => by rw [e, bd_q, if_pos (by decide)]) (fun s e => by rw [e, bd_q, if_pos (by decide)])
    obtain ⟨σ2, F, eb, LB0, ⟨f6, f7, f8, f9, f10⟩, t1, t2, t3⟩ := LB_begin (τ0 := τ) D1 rfl m8 w n1
    rw [x5, x19] at LB0
    have P2 : PR σ2 (sL τ1 211 (12 + h 0) (l64 dd1)) n L B k1 aa1 bb1 cc1 dd1 v1 := PR_c P1 t1 t2 t3 rfl rfl (sL_ne (by decide))
    obtain ⟨σ3, τ3, g1, g2, f3, f4, k3, aa3, bb3, cc3, dd3, v3, P3, l3⟩ := p_next hN P2 (Or.inl kk1)
    have LB1 := LB_K LB0 f3 f4 (by decide) (by decide) (by decide)
    rw [c1, bd_q, if_neg (by decide), vl_q, b1', d26.1, ald_q (by omega) (by decide), d27 m8, vl_q, c3, eb, bp_q, g1, bp_q, m1, g2, bp_q, bd_q, if_neg (by decide), nI_addq, nI_addq, nI_addq, nI_addq, nI_addq]
    -- X
    rcases p_puts (lo := 0) (hi := 19) (j := 3 + h 0) hN (by decide) (by decide) (by omega) P3 with bad | ⟨_, u1, σ4, τ4, q1, q2, ⟨kk3, ad4, ff3, ff4⟩, t5⟩
    · exact LnE_bad bad LB1.2.2.2.2.2.2.2.2.1 (fun s e => by rw [e, bd_q, if_pos (by decide)]) (fun s e => by rw [e, bd_q, if_pos (by decide)])
    have LB2 := LB_put (f := 1) (J := 3 + h 0) (v := v3) (LB_K LB1 ff3 ff4 (by decide) (by decide) (by decide)) (by decide) (Or.inl rfl)
    have ad4' := AdvT_c ad4 (σ' := sI σ4 (29 + 2 * h 0) 1 (nI v3)) (τ' := sI τ4 209 (3 + h 0) (nI v3)) (sI_ne (by omega)) (sI_ne (by omega)) rfl (sI_ne (by decide)) (sI_ne (by decide)) rfl
    obtain ⟨k4, aa4, bb4, cc4, dd4, v4, P4, l4⟩ := ad4'
    rw [q1, bd_q, if_neg (by decide), vl_q, t5, vl_q, q2, bd_q, if_neg (by decide)]
    -- Y
    rcases p_puts (lo := 0) (hi := 19) (j := 11 + h 0) hN (by decide) (by decide) (by omega) P4 with bad | ⟨_, u2, σ5, τ5, q3, q4, ⟨kk4, ad5, ff5, ff6⟩, t6⟩
    · exact LnE_bad bad LB2.2.2.2.2.2.2.2.2.1 (fun s e => by rw [e, bd_q, if_pos (by decide)]) (fun s e => by rw [e, bd_q, if_pos (by decide)])
    have LB3 := LB_put (f := 2) (J := 11 + h 0) (v := v4) (LB_K LB2 ff5 ff6 (by decide) (by decide) (by decide)) (by decide) (Or.inr (Or.inl rfl))
    have ad5' := AdvT_c ad5 (σ' := sI σ5 (29 + 2 * h 0) 2 (nI v4)) (τ' := sI τ5 209 (11 + h 0) (nI v4)) (sI_ne (by omega)) (sI_ne (by omega)) rfl (sI_ne (by decide)) (sI_ne (by decide)) rfl
    obtain ⟨k5, aa5, bb5, cc5, dd5, v5, P5, l5⟩ := ad5'
    rw [q3, bd_q, if_neg (by decide), vl_q, t6, vl_q, q4, bd_q, if_neg (by decide)]
    -- RANGE
    rcases p_puts (lo := 1) (hi := 30) (j := 19 + h 0) hN (by decide) (by decide) (by omega) P5 with bad | ⟨u3, u3', σ6, τ6, q5, q6, ⟨kk5, ad6, ff7, ff8⟩, t7⟩
    · exact LnE_bad bad LB3.2.2.2.2.2.2.2.2.1 (fun s e => by rw [e, bd_q, if_pos (by decide)]) (fun s e => by rw [e, bd_q, if_pos (by decide)])
    have LB4 := LB_put (f := 3) (J := 19 + h 0) (v := v5) (LB_K LB3 ff7 ff8 (by decide) (by decide) (by decide)) (by decide) (Or.inr (Or.inr (Or.inl rfl)))
    have ad6' := AdvT_c ad6 (σ' := sI σ6 (29 + 2 * h 0) 3 (nI v5)) (τ' := sI τ6 209 (19 + h 0) (nI v5)) (sI_ne (by omega)) (sI_ne (by omega)) rfl (sI_ne (by decide)) (sI_ne (by decide)) rfl
    obtain ⟨k6, aa6, bb6, cc6, dd6, v6, P6, l6⟩ := ad6'
    rw [q5, bd_q, if_neg (by decide), vl_q, t7, vl_q, q6, bd_q, if_neg (by decide)]
    -- COLOUR
    obtain ⟨cl, cl3, o1, o2, o3⟩ := c_colour P6
    have LB5 := LB_put (f := 4) (J := 27 + h 0) (v := cl) LB4 (by decide) (Or.inr (Or.inr (Or.inr (Or.inl rfl))))
    have P7 : PR (sI (sI σ6 (29 + 2 * h 0) 3 (nI v5)) (29 + 2 * h 0) 4 (nI cl)) (sI (sI τ6 209 (19 + h 0) (nI v5)) 209 (27 + h 0) (nI cl)) n L B k6 aa6 bb6 cc6 dd6 v6 := PR_c P6 (sI_ne (by omega)) (sI_ne (by omega)) rfl (sI_ne (by decide)) (sI_ne (by decide)) rfl
    have P7' : PR (sI (sI σ6 (29 + 2 * h 0) 3 (nI v5)) (29 + 2 * h 0) 4 (nI cl)) (sI τ6 209 (19 + h 0) (nI v5)) n L B k6 aa6 bb6 cc6 dd6 v6 := PR_c P6 (sI_ne (by omega)) (sI_ne (by omega)) rfl rfl rfl rfl
    have e4 : (sI (sI σ6 (29 + 2 * h 0) 3 (nI v5)) (29 + 2 * h 0) 4 (nI cl)).1 (29 + 2 * h 0) 4 = nI cl := by rw [sI1, if_pos rfl, if_pos rfl]
    have om := fun (j : Int32 → Option (Int32 × St)) => (jn_q j (fun j15 => bp (f_X12_isWord (512852849765 : Int64) (sI τ6 209 (19 + h 0) (nI v5))) fun v13 => if v13 = 0 then bp (f_X12_isWord (7497060 : Int64) (sI τ6 209 (19 + h 0) (nI v5))) fun v24 => if v24 = 0 then bp (f_X12_isWord (444300879214 : Int64) (sI τ6 209 (19 + h 0) (nI v5))) fun v25 => if v25 = 0 then j15 (nI 0) else j15 (nI 3) else j15 (nI 2) else j15 (nI 1))).trans (o3 j)
    rw [o1, bp_q, vl_q, vl_q, e4, if_eq0 (by omega)]
    have mm : ∀ (Y : Option (Int32 × St)) (j : Int32 → Option (Int32 × St)), j (nI cl) = Y → (bp (f_X12_isWord (512852849765 : Int64) (sI τ6 209 (19 + h 0) (nI v5))) fun v13 => jn j fun j15 => if v13 = 0 then bp (f_X12_isWord (7497060 : Int64) (sI τ6 209 (19 + h 0) (nI v5))) fun v24 => if v24 = 0 then bp (f_X12_isWord (444300879214 : Int64) (sI τ6 209 (19 + h 0) (nI v5))) fun v25 => if v25 = 0 then j15 (nI 0) else j15 (nI 3) else j15 (nI 2) else j15 (nI 1)) = Y := fun Y j hj => by
      rw [← hj, ← o3 j]
      rfl
    by_cases z : cl = 0
    · rw [if_pos z]
      subst z
      refine LnE_bad (p_bad2 (w := 1) P7' (by decide) (fun s e => e) (fun s e => e)) LB4.2.2.2.2.2.2.2.2.1 (fun s e => by rw [e, bd_q, rz_0]) (fun s e => mm _ _ ?_)
      rw [if_pos (by decide), e, bd_q, rz_0]
    · rw [if_neg z]
      obtain ⟨σ7, τ7, g3, g4, f5, ff, k7, aa7, bb7, cc7, dd7, v7, P8, l8⟩ := p_next hN P7 (Or.inl (o2 z))
      have LB6 := LB_K LB5 f5 ff (by decide) (by decide) (by decide)
      rw [g3, bp_q]
      have mz : ∀ (Y Z : Option (Int32 × St)), Z = Y → (bd (f_X12_puts N (nI (35 + h 0)) (nI 0) (nI 999) τ7) fun v20 s21 => if v20 = 0 then some ((nI 0), s21) else ald (s21.1 209) 147 (nI 0) fun v22 => ald (fun j => sI s21 209 j (v22 + (nI 1))) 147 (nI 0) fun s23 => some ((nI 1), s23)) = Z → (bp (f_X12_isWord (512852849765 : Int64) (sI τ6 209 (19 + h 0) (nI v5))) fun v13 => jn (fun (v14 : Int32) => if v14 = 0 then bd (f_X12_bad (nI 1) (sI τ6 209 (19 + h 0) (nI v5))) fun v16 s17 => rz v16 <| some (v16, s17) else ald (fun j => sI (sI τ6 209 (19 + h 0) (nI v5)) 209 j v14) 147 (nI (27 + h 0)) fun s18 => bp (f_X12_next N s18) fun s19 => bd (f_X12_puts N (nI (35 + h 0)) (nI 0) (nI 999) s19) fun v20 s21 => if v20 = 0 then some ((nI 0), s21) else ald (s21.1 209) 147 (nI 0) fun v22 => ald (fun j => sI s21 209 j (v22 + (nI 1))) 147 (nI 0) fun s23 => some ((nI 1), s23)) fun j15 => if v13 = 0 then bp (f_X12_isWord (7497060 : Int64) (sI τ6 209 (19 + h 0) (nI v5))) fun v24 => if v24 = 0 then bp (f_X12_isWord (444300879214 : Int64) (sI τ6 209 (19 + h 0) (nI v5))) fun v25 => if v25 = 0 then j15 (nI 0) else j15 (nI 3) else j15 (nI 2) else j15 (nI 1)) = Y := fun Y Z hZ hW => by
        refine mm Y _ ?_
        rw [if_eq0 (by omega), if_neg z, ald_q (by omega) (by decide), g4, bp_q, hW, hZ]
      -- OIL
      rcases p_puts (lo := 0) (hi := 999) (j := 35 + h 0) hN (by decide) (by decide) (by omega) P8 with bad | ⟨_, u5, σ8, τ8, q7, q8, ⟨kk7, ad9, ff9, ff10⟩, t9⟩
      · exact LnE_bad bad LB6.2.2.2.2.2.2.2.2.1 (fun s e => by rw [e, bd_q, if_pos (by decide)]) (fun s e => mz _ _ rfl (by rw [e, bd_q, if_pos (by decide)]))
      have LB7 := LB_put (f := 5) (J := 35 + h 0) (v := v7) (LB_K LB6 ff9 ff10 (by decide) (by decide) (by decide)) (by decide) (Or.inr (Or.inr (Or.inr (Or.inr rfl))))
      obtain ⟨r1, r2, r3, r4⟩ := LB_done LB7 (by rw [put_ne (by omega), put_ne (by omega), put_ne (by omega), put_ne (by omega), put_eq]; exact u1) (by rw [put_ne (by omega), put_ne (by omega), put_ne (by omega), put_eq]; exact u2) (by rw [put_ne (by omega), put_ne (by omega), put_eq]; exact ⟨u3, u3'⟩) (by rw [put_ne (by omega), put_eq]; omega) (by rw [put_eq]; exact u5) (by rw [put_ne (by omega), put_ne (by omega), put_ne (by omega), put_ne (by omega), put_eq]; rfl) (by rw [put_ne (by omega), put_ne (by omega), put_ne (by omega), put_eq]; rfl) (by rw [put_ne (by omega), put_ne (by omega), put_eq]; rfl) (by rw [put_ne (by omega), put_eq]; rfl) (by rw [put_eq]; rfl) f6 f7 f8 f9 f10
      have ad10 := AdvT_c ad9 (σ' := sI (sI σ8 (29 + 2 * h 0) 5 (nI v7)) 26 2 (nI (h 0 + 1))) (τ' := sI (sI τ8 209 (35 + h 0) (nI v7)) 209 0 (nI (h 0 + 1))) ((sI_ne (by omega)).trans (sI_ne (by omega))) ((sI_ne (by omega)).trans (sI_ne (by omega))) rfl ((sI_ne (by decide)).trans (sI_ne (by decide))) ((sI_ne (by decide)).trans (sI_ne (by decide))) rfl
      have bq : b ≤ bb7 := by
        have := l1 (Or.inl kk1)
        have := l3 (Or.inr (Or.inl kk3))
        have := l4 (Or.inr (Or.inl kk4))
        have := l5 (Or.inr (Or.inl kk5))
        have := l6 (Or.inl (o2 z))
        have := l8 (Or.inr (Or.inl kk7))
        omega
      refine Or.inr ⟨_, _, _, g, ?_, mz _ _ rfl ?_, r1, AdvT_mono ad10 bq, r2, r3, r4⟩
      · have c26 : (sI σ8 (29 + 2 * h 0) 5 (nI v7)).1 26 2 = nI (h 0) := by
          have := LB7.1.2.2.1.1
          rw [put_ne (by omega), put_ne (by omega), put_ne (by omega), put_ne (by omega), put_ne (by omega)] at this
          exact this
        rw [q7, bd_q, if_neg (by decide), vl_q, t9, vl_q, vl_q, vl_q, c26, nI_addq]
      · have c0 : (sI τ8 209 (35 + h 0) (nI v7)).1 209 0 = nI (h 0) := by
          have := LB7.1.1.1 0 (by decide)
          rw [put_ne (by omega), put_ne (by omega), put_ne (by omega), put_ne (by omega), put_ne (by omega)] at this
          exact this
        rw [q8, bd_q, if_neg (by decide), ald_q (by decide) (by decide), c0, nI_addq, ald_q (by decide) (by decide)]
  · rw [if_neg m8, if_pos (by omega)]
    exact LnE_bad (p_bad2 (w := 4) H (by decide) (fun s e => e) (fun s e => e)) (fun j _ => rfl) (fun s e => by rw [e, bd_q, rz_0]) (fun s e => by rw [e, bd_q, rz_0])
end ReadLight
