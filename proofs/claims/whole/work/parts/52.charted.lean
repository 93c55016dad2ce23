/-! a chart is told: the law's act -/
theorem k_chart {σ τ : St} {N n top : Nat} {B : Nat → Nat} (hN : 1000 ≤ N) (hT : TapR σ τ n B) (hR : RvR τ) (hB : DBl σ) (hB3 : ∀ l, l < 8 → Trs σ (6 + 2 * l)) (ht : top < 9) (h75 : σ.1 75 1 = nI top) : (∃ r σ' τ', f_X11_chart N σ = some (r, σ') ∧ f_X12_chart N τ = some (r, τ') ∧ (σ'.1 0 15 = τ'.1 206 15 ∧ σ'.1 1 1 = nI 0 ∧ τ'.1 206 2 = nI 0) ∧ N12 τ τ' ∧ Fr [206, 209, 211] τ τ' ∧ Fr [0, 1, 3] σ σ' ∧ (∀ k, k ≠ 15 → σ'.1 0 k = σ.1 0 k) ∧ DBl σ') ∨ ∃ r σ' τ' S, f_X11_chart N σ = some (r, σ') ∧ f_X12_chart N τ = some (r, τ') ∧ (σ'.1 0 15 = τ'.1 206 15 ∧ σ'.1 1 1 = nI 0 ∧ τ'.1 206 2 = nI 0) ∧ KRel σ' τ' S 0 top (fun _ _ => 0) ∧ (NmR σ' τ' 4 0 (S 0) ∧ NmR σ' τ' 5 8 (S 1)) ∧ (∀ j, 178 ≤ j → S j = 0) ∧ (σ'.1 61 0 = nI 0 ∧ σ'.1 61 1 = nI 0) ∧ RvR τ' ∧ DBl σ' ∧ (∀ l, l < 8 → Trs σ' (6 + 2 * l)) ∧ ∀ k, k ≠ 15 → σ'.1 0 k = σ.1 0 k := by
  rcases p_readChart hN hT hR hB with ⟨σ', τ', w, a, e1, e2, ⟨p6, p7, p15, p16, _⟩, n12, fr, t2, hBd⟩ | ⟨σ', τ', h', g', x', e1, e2, D, n12, fr, x5, x19, xl, y6, y15, t2⟩
  · refine Or.inl ⟨-1 - nI a, sI (sI σ' 0 15 (nI w)) 1 1 (nI 0), τ', ?_, e2, ⟨?_, ?_, t2⟩, n12, fr, ?_, fun k hk => ?_, ?_⟩
    · unfold f_X11_chart f_X11_closeText
      rw [e1, bd_q, vl_q, vl_q, vl_q, p6, bp_q, if_pos (by decide), vl_q, sI1, if_pos rfl, if_neg (by decide), sI_ne (by decide), p7]
    · rw [sI_ne (by decide), sI1, if_pos rfl, if_pos rfl, p15]
    · rw [sI1, if_pos rfl, if_pos rfl]
    · have F1 : Fr [0, 1, 3] σ σ' := fr_X1_read (R := [0, 1, 3]) shq_26 (by decide) (by decide) e1
      refine F1.trans (fun j hj => ?_)
      have j0 : j ≠ 0 := fun e => hj (by rw [e]; decide)
      have j1 : j ≠ 1 := fun e => hj (by rw [e]; decide)
      exact ⟨by rw [sI_ne j1, sI_ne j0], rfl⟩
    · have F1 : Fr [1, 3] σ σ' := fr_X1_read (R := [1, 3]) shq_26 (by decide) (by decide) e1
      rw [sI_ne (by decide), sI1, if_pos rfl, if_neg hk, (F1 0 (by decide)).1]
    · exact DBl_w hBd (fun b b1 b2 => by rw [sI_ne (by omega), sI_ne (by omega)])
  · have F1 : Fr [1, 3] σ σ' := fr_X1_read (R := [1, 3]) shq_26 (by decide) (by decide) e1
    have cl : ∀ b, b ≠ 0 → b ≠ 1 → (sI (sI σ' 0 15 (nI 0)) 1 1 (nI 0)).1 b = σ'.1 b := fun b b0 b1 => by rw [sI_ne b1, sI_ne b0]
    have k1 : (sI (sI σ' 0 15 (nI 0)) 1 1 (nI 0)).1 1 1 = nI 0 := by rw [sI1, if_pos rfl, if_pos rfl]
    have k0 : ∀ k, (sI (sI σ' 0 15 (nI 0)) 1 1 (nI 0)).1 0 k = if k = 15 then nI 0 else σ.1 0 k := fun k => by
      rw [sI_ne (by decide), sI1, if_pos rfl, (F1 0 (by decide)).1]
    have D1 : DR (sI (sI σ' 0 15 (nI 0)) 1 1 (nI 0)) τ' h' g' := DR_w D (fun b hb => ⟨cl b (by rcases hb with e | ⟨l, _, e | e⟩ | ⟨k, _, e⟩ <;> omega) (by rcases hb with e | ⟨l, _, e | e⟩ | ⟨k, _, e⟩ <;> omega), rfl⟩) (DBl_w D.1.2.2 (fun b b1 b2 => cl b (by omega) (by omega))) rfl rfl rfl rfl (fun _ _ => rfl)
    have l1 : (sI (sI σ' 0 15 (nI 0)) 1 1 (nI 0)).2 = σ'.2 := rfl
    have s5 : (sI (sI σ' 0 15 (nI 0)) 1 1 (nI 0)).1 26 5 = nI x' := by rw [cl 26 (by decide) (by decide)]; exact x5
    obtain ⟨rN, eN, R8, oN, o206, o24, lN, n11⟩ := m_chK hN D.1.1
    have run : f_X11_chart N σ = bp (f_X1_copyFrom N 3 26 (sI (sI σ' 0 15 (nI 0)) 1 1 (nI 0))) fun s5 => bp (f_X1_compareLights N 3 s5) fun s6 => bp (f_X6_begin N 49 s6) fun s7 => bp (f_X7_clear 61 s7) fun s8 => bp (f_X5_clear s8) fun s9 => vl (s9.1 3 5) fun v10 => some (v10, s9) := by
      unfold f_X11_chart f_X11_closeText
      rw [e1, bd_q, vl_q, vl_q, vl_q, y6, bp_q, if_one]
    generalize hs1 : sI (sI σ' 0 15 (nI 0)) 1 1 (nI 0) = σ1 at *
    obtain ⟨⟨a1, a2, a3⟩, ⟨h0, h1, _, _⟩, ⟨b1, b2, b3⟩, _, c4, _, c6, ⟨n1, n2⟩, _⟩ := id D1
    obtain ⟨⟨C0, C1, C2, C3, C4⟩, WW⟩ := nw_C D1
    obtain ⟨t3, e3, g1, g2, g3, g4, g5, g6⟩ := c_copyChart (N := N) (s := σ1) (a := 3) (b := 26) (m := h' 0) (q := h' 1) (by omega) ch_3 ch_26 (by decide) b1 h0 b2 h1 (fun l hl => by
      have q := a3 l (by omega)
      exact ⟨by rw [show 26 + 3 + 2 * l = 29 + 2 * l by omega]; exact q.1, fun p hp => by rw [show 26 + 3 + 2 * l + 1 = 30 + 2 * l by omega]; exact q.2 p hp⟩)
    have g1' : ∀ l, l < h' 0 → LCp σ1 t3 (6 + 2 * l) (29 + 2 * l) := fun l hl => by
      have := g1 l hl
      rw [show 3 + 3 + 2 * l = 6 + 2 * l by omega, show 26 + 3 + 2 * l = 29 + 2 * l by omega] at this
      exact this
    have g2' : ∀ k, k < h' 1 → SCp σ1 t3 (22 + k) (45 + k) := fun k hk => by
      have := g2 k hk
      rw [show 3 + 19 + k = 22 + k by omega, show 26 + 19 + k = 45 + k by omega] at this
      exact this
    have e0 : nwS h' 0 = h' 0 := nw_lo (by decide)
    have e1' : nwS h' 1 = h' 1 := nw_lo (by decide)
    have e2' : nwS h' 2 = h' 2 := nw_lo (by decide)
    have M3 : CRel t3 3 4 5 (nwS h') := by
      refine ⟨by rw [g3 2 (by decide) (by decide), e0]; exact b1, by rw [g3 3 (by decide) (by decide), e1']; exact b2, by rw [g3 4 (by decide) (by decide), e2']; exact b3, fun l hl => ?_, fun k hk => ?_⟩
      · rw [e0] at hl
        obtain ⟨w1, r1, _⟩ := c4 l hl
        have r2 := LRel_a (nw_a (show l < 8 by omega)) w1.2.2.2.2.2.1 r1
        rw [d4q (by omega)]
        exact LRel_cp (g1' l hl) ((d4r (by omega)).trans (by omega)) ((d27r (by omega)).trans (by omega)) (perS_le (WFl_a (nw_a (show l < 8 by omega)) w1)) r2
      · rw [e1'] at hk
        have r1 := (c6 k hk).2
        have q := (g2' k hk).1
        rw [d5q (by omega)]
        unfold HRel at r1 ⊢
        rw [q 1 (by decide) (by decide), q 2 (by decide) (by decide), q 3 (by decide) (by decide), q 4 (by decide) (by decide), nw_lo (by omega), nw_lo (by omega), nw_lo (by omega), nw_lo (by omega)]
        exact r1
    obtain ⟨t4, e4, ot, A4⟩ := c_compare (N := N) (by omega) ⟨C0, C1, C2, C3, C4⟩ M3
    have M4 := CRel_o C0 C1 ot M3
    obtain ⟨t5, e5, S5, o5, l5⟩ := c_begin (N := N) (by omega) M4 C0 C1 (nw_WB h')
    have M5 : CRel t5 3 4 5 (nwS h') := CRel_w M4 C0 C1 (fun c c1 c2 => o5 c (by omega))
    have cF : ∀ b, b ≠ 61 → b ≠ 75 → (sI (sI (sI t5 61 0 (nI 0)) 61 1 (nI 0)) 75 2 (nI 0)).1 b = t5.1 b := fun b q1 q2 => by rw [sI_ne q2, sI_ne q1, sI_ne q1]
    have lF : (sI (sI (sI t5 61 0 (nI 0)) 61 1 (nI 0)) 75 2 (nI 0)).2 = t3.2 := by
      show t5.2 = _
      rw [l5, ot.1]
    have rF : f_X11_chart N σ = some (nI x', sI (sI (sI t5 61 0 (nI 0)) 61 1 (nI 0)) 75 2 (nI 0)) := by
      rw [run, e3, bp_q, e4, bp_q, e5, bp_q]
      unfold f_X7_clear f_X5_clear
      rw [vl_q, vl_q, bp_q, vl_q, bp_q, vl_q, cF 3 (by decide) (by decide), o5 3 (by decide), ot.2 3 5 (by omega), g3 5 (by decide) (by decide), s5]
    have f61 : (sI (sI (sI t5 61 0 (nI 0)) 61 1 (nI 0)) 75 2 (nI 0)).1 61 0 = nI 0 ∧ (sI (sI (sI t5 61 0 (nI 0)) 61 1 (nI 0)) 75 2 (nI 0)).1 61 1 = nI 0 := by
      rw [sI_ne (by decide), sI1, if_pos rfl, if_neg (by decide), sI1, if_pos rfl, if_pos rfl, sI1, if_pos rfl, if_pos rfl]
      exact ⟨rfl, rfl⟩
    have f75 : (sI (sI (sI t5 61 0 (nI 0)) 61 1 (nI 0)) 75 2 (nI 0)).1 75 1 = nI top ∧ (sI (sI (sI t5 61 0 (nI 0)) 61 1 (nI 0)) 75 2 (nI 0)).1 75 2 = nI 0 := by
      rw [sI1, if_pos rfl, if_neg (by decide), sI_ne (by decide), sI_ne (by decide), o5 75 (by decide), ot.2 75 1 (by omega), (g5 75 (by decide) (by omega) (by omega)).1, cl 75 (by decide) (by decide), ← (F1 75 (by decide)).1, sI1, if_pos rfl, if_pos rfl]
      exact ⟨h75, rfl⟩
    -- cells that the copy, and all after it, leave
    have cc : ∀ b, b ≠ 61 → b ≠ 75 → b ≠ 3 → ¬ (6 ≤ b ∧ b < 26) → ¬ (49 ≤ b ∧ b < 55) → (sI (sI (sI t5 61 0 (nI 0)) 61 1 (nI 0)) 75 2 (nI 0)).1 b = σ1.1 b := fun b q1 q2 q3 q4 q5 => by
      rw [cF b q1 q2, o5 b q5]
      funext k
      rw [ot.2 b k (Or.inr (by omega)), (g5 b q3 (by omega) (by omega)).1]
    generalize hsF : sI (sI (sI t5 61 0 (nI 0)) 61 1 (nI 0)) 75 2 (nI 0) = σF at *
    refine Or.inr ⟨nI x', σF, rN, nwS h', rF, e2.trans (eN.trans (by rw [x19])), ⟨?_, ?_, ?_⟩, ⟨R8, ⟨C0, C1, C2, C3, C4⟩, WW, ?_, ?_, ?_, ?_, ?_⟩, ⟨fun l hl => ?_, fun k hk => ?_⟩, fun j hj => nw_hi (by omega), f61, fun i hi => ?_, ?_, fun l hl => ?_, fun k hk => ?_⟩
    · rw [cc 0 (by decide) (by decide) (by decide) (by decide) (by decide), k0, if_pos rfl, o206 15 (by decide), y15]
    · rw [cc 1 (by decide) (by decide) (by decide) (by decide) (by decide), k1]
    · rw [o206 2 (by decide), t2]
    · rw [nw_hi (by omega)]; decide
    · exact CRel_w M5 C0 C1 (fun c c1 c2 => cF c (by omega) (by omega))
    · intro l hl
      have := A4 l hl
      rw [d4q (by omega)] at this ⊢
      rw [cF _ (by omega) (by omega), o5 _ (by omega)]
      exact this
    · obtain ⟨q1, q2, q3, q4, q5⟩ := S5
      have w : ∀ c, 49 ≤ c → c < 55 → σF.1 c = t5.1 c := fun c c1 c2 => cF c (by omega) (by omega)
      unfold SRel
      rw [d49.1, d49.2.1, d49.2.2.1, d49.2.2.2.1, d49.2.2.2.2, w 49 (by decide) (by decide), w 50 (by decide) (by decide), w 51 (by decide) (by decide), w 52 (by decide) (by decide), w 53 (by decide) (by decide), w 54 (by decide) (by decide)]
      rw [d49.1, d49.2.1] at q4
      rw [d49.2.2.1, d49.2.2.2.1, d49.2.2.2.2] at q5
      exact ⟨q1, q2, q3, q4, q5⟩
    · exact ⟨by decide, ht, f75.1, f75.2, o24, fun i hi => absurd hi (Nat.not_lt_zero _)⟩
    · rw [e0] at hl
      obtain ⟨c, d, w, x1, x2⟩ := n1 l hl
      rw [d27 (by omega)] at x1
      refine ⟨c, d, w, ?_, ?_⟩
      · rw [lF, d4q (by omega), (g1' l hl).2.1]; exact x1
      · rw [n11, if_pos (by omega), Nat.zero_add]; exact x2
    · rw [e1'] at hk
      obtain ⟨c, d, w, x1, x2⟩ := n2 k hk
      rw [d28 (by omega)] at x1
      refine ⟨c, d, w, ?_, ?_⟩
      · rw [lF, d5q (by omega), (g2' k hk).2]; exact x1
      · rw [n11, if_pos (by omega), show 12 + (8 + k) = 20 + k by omega]; exact x2
    · rw [lN 212 (by decide)]; exact a2 i hi
    · exact DBl_w a3 (fun b q1 q2 => cc b (by omega) (by omega) (by omega) (by omega) (by omega))
    · have z7 : ∀ k, k ≠ 12 ∧ k ≠ 13 → σF.1 (6 + 2 * l) k = t3.1 (6 + 2 * l) k := fun k hk => by
        rw [cF _ (by omega) (by omega), o5 _ (by omega), ot.2 _ k (Or.inl hk)]
      have z8 : ∀ k, σF.1 (6 + 2 * l + 1) k = t3.1 (6 + 2 * l + 1) k := fun k => by
        rw [cF _ (by omega) (by omega), o5 _ (by omega), ot.2 _ k (Or.inr (by omega))]
      unfold Trs
      rw [z7 7 (by decide)]
      by_cases q : l < h' 0
      · obtain ⟨c1, _, c3⟩ := g1' l q
        rw [c1 7 (by unfold tfl; omega)]
        have := a3 l (by omega)
        refine ⟨this.1, fun p hp => ?_⟩
        rw [z8, c3 p hp, show 29 + 2 * l + 1 = 30 + 2 * l by omega]
        exact this.2 p hp
      · have u1 : t3.1 (6 + 2 * l) = σ.1 (6 + 2 * l) := by
          rw [(g5 _ (by omega) (by omega) (by omega)).1, cl _ (by omega) (by omega), ← (F1 _ (by rw [← d4q hl, (regA l hl).1]; decide)).1]
        have u2 : t3.1 (6 + 2 * l + 1) = σ.1 (6 + 2 * l + 1) := by
          rw [(g5 _ (by omega) (by omega) (by omega)).1, cl _ (by omega) (by omega), ← (F1 _ (by rw [show 6 + 2 * l + 1 = 7 + 2 * l by omega, ← d4r hl, ← d4q hl, (regA l hl).2]; decide)).1]
        rw [u1]
        exact ⟨(hB3 l hl).1, fun p hp => by rw [z8, u2]; exact (hB3 l hl).2 p hp⟩
    · rw [cc 0 (by decide) (by decide) (by decide) (by decide) (by decide), k0, if_neg hk]
