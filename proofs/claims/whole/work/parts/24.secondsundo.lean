/-! seconds and undo, both sides -/
theorem secN_o {S : Nat → Nat} (hC : WFC S) (n : Nat) : sameO S (secN S n) := fun j hj => by
  rcases hj with h | h
  · exact secN_C S n j h
  · exact secN_hi hC h n
theorem k_seconds {σ τ : St} {S : Nat → Nat} {u top N : Nat} {H : Nat → Nat → Nat} (hN : 2000 ≤ N) (hK : KRel σ τ S u top H) (y : Int32) : actE σ τ S (f_X11_seconds N y σ) (f_X12_seconds N y τ) := by
  have hh := hK
  obtain ⟨h1, h2, hW, h4, h5, h6, h7, h8⟩ := hh
  have c1 := h2.1
  have c2 := h2.2.1
  have hK0 := KRel_thr hK (nI 0)
  have hR0 := hK0.1
  unfold f_X11_seconds f_X12_seconds
  rw [vl_q, m_isIn, bp_q, if_bI, rng (by decide) (by decide)]
  by_cases hy : (nI 1).toInt ≤ y.toInt ∧ y.toInt ≤ (nI 60).toInt
  · obtain ⟨n, n1, n2, rfl⟩ := inR (by decide) (by decide) hy
    rw [if_pos (decide_eq_true hy), if_pos (decide_eq_true hy), ald_S hR0 (by decide), if_eqq (by omega) (by decide)]
    obtain ⟨σ1, em, rm, fm⟩ := c_mark h8.2.1 h8.2.2.1 c1 c2 h7
    have hK1 := K_mark hK fm
    obtain ⟨σ2, ea, ra⟩ := c_pass (N := N) (n := n) hN sh49.1 (by rw [sh49.2]; decide) h2 hW hK1.2.2.2.2.1 hK1.2.2.2.2.2.2.1 (by omega) h4
    have hF2 : Fr [4] σ1 σ2 := fr_X6_pass sh49.1 (fun x hx => absurd hx List.not_mem_nil) (by rw [sh49.2]; decide) ea
    have hw : wentS S n = min n (3600 - S 147) := rfl
    rw [em, bp_q, ea, bd_q]
    unfold f_X11_keepIfAny
    rw [if_le0 (by omega)]
    by_cases q : S 147 = 3600
    · have w0 : wentS S n = 0 := by omega
      rw [if_pos w0, if_pos q, bd_q, w0]
      rw [w0] at ra
      have hKn : KRel σ2 (sI τ 206 0 (nI 0)) S u top H := by
        obtain ⟨g1, g2, g3, g4, g5, g6, g7, g8⟩ := KRel_thr hK1 (nI 0)
        exact ⟨g1, g2, g3, g4, CRel_fr hF2 (by decide) c1 c2 g5, ARel_fr hF2 (by decide) c1 g6, ra, PRel_fr g8 hF2 (by decide) (fun i hi z => by have := List.mem_singleton.mp z; omega) rfl rfl⟩
      exact ⟨_, _, _, S, u, top, H, rfl, rfl, hKn, sameO.rf S, (fm.mono (fun x hx => by rw [List.mem_singleton.mp hx]; exact p18 h8.2.1)).trans (hF2.mono (fun x hx => by rw [List.mem_singleton.mp hx]; decide)), Fr.rf.sI (by decide +kernel), Fm.rf.sI (by decide)⟩
    · have w0 : ¬ wentS S n = 0 := by omega
      have hO := secN_o h2 (wentS S n)
      obtain ⟨σ', τ1, u', top', H', e1, e2, r1, f1, fm1, fa, fin⟩ := act_done (N := N) (T := secN S (wentS S n)) (by omega) hK0 fm rm hF2 ra hO (secN_W h2 hW _ (by omega)) (by rw [secN_147]; omega)
      obtain ⟨τ2, eg, rg⟩ := m_goesOn (N := N) (n := n) hN h2 hW r1 (by omega) h4
      have f2 : Fr [208] τ1 τ2 := fr_X12_goesOn (fun x hx => hx) eg
      obtain ⟨g1, g2, g3⟩ := fr208 f2
      rw [if_neg w0, if_neg q, e1, bp_q, bd_q, e2, bp_q, eg, bd_q]
      refine ⟨_, _, _, secN S (wentS S n), u', top', H', rfl, rfl, fin _ rg (by rw [g1]) g2, hO, fa, ?_, ?_⟩
      · exact ((Fr.rf.sI (by decide +kernel)).trans (f1.mono (by decide))).trans (f2.mono (by decide))
      · exact ((Fm.rf.sI (by decide)).trans (fm1.mono (by decide))).trans g3
  · rw [if_neg (fun z => hy (of_decide_eq_true z)), if_neg (fun z => hy (of_decide_eq_true z))]
    exact actE_no hK _
theorem m_undoL {S w : Nat → Nat} {N v : Nat} (hv : v < 8) {k7 : St → Option (Int32 × St)} : ∀ n i (τ : St), i ≤ 31 → 31 - i < n → RS (mix S (fun j => if j < i then w j else S (147 + j))) τ → τ.1 206 24 = nI v → (∀ j, j < 31 → τ.1 213 (31 * v + j) = nI (w j)) → ∃ τ', f_X12_undo_L26 N k7 n (nI i) τ = k7 τ' ∧ RS (mix S w) τ' ∧ Fr [208] τ τ' := by
  intro n
  induction n with
  | zero => intro i τ _ h; omega
  | succ n ih =>
    intro i τ hi hn hR h24 hB
    unfold f_X12_undo_L26
    rw [if_leq (by omega) (by omega)]
    by_cases q : 31 ≤ i
    · rw [if_pos q]
      refine ⟨τ, rfl, ?_, Fr.rf⟩
      have e : mix S (fun j => if j < i then w j else S (147 + j)) = mix S w := by
        funext j
        by_cases g : 147 ≤ j ∧ j < 178
        · unfold mix; rw [if_pos g, if_pos g]; exact if_pos (by omega)
        · rw [mix_o (by omega), mix_o (by omega)]
      rw [← e]; exact hR
    · rw [if_neg q]
      simp only [vl_q]
      rw [h24, nI_mulq, nI_addq, ald_q (by omega) (by decide), hB i (by omega), nI_addq, ald_q (by omega) (by decide), nI_addq]
      have hR' : RS (mix S (fun j => if j < i + 1 then w j else S (147 + j))) (sI τ 208 (147 + i) (nI (w i))) := by
        have e : mix S (fun j => if j < i + 1 then w j else S (147 + j)) = put (mix S (fun j => if j < i then w j else S (147 + j))) (147 + i) (w i) := by
          funext j
          by_cases g : j = 147 + i
          · subst g
            rw [put_eq, mix_w (by omega), if_pos (by omega)]
          · rw [put_ne g]
            by_cases g2 : 147 ≤ j ∧ j < 178
            · unfold mix; rw [if_pos g2, if_pos g2]
              dsimp only
              by_cases g3 : j - 147 < i
              · rw [if_pos g3, if_pos (by omega)]
              · rw [if_neg g3, if_neg (by omega)]
            · rw [mix_o (by omega), mix_o (by omega)]
        rw [e]; exact RS_put hR _ _
      obtain ⟨τ', e1, e2, e3⟩ := ih (i + 1) _ (by omega) (by omega) hR' (by rw [sI1, if_neg (by decide)]; exact h24) (fun j hj => by rw [sI1, if_neg (by decide)]; exact hB j hj)
      exact ⟨τ', e1, e2, (Fr.rf.sI (by decide +kernel)).trans e3⟩
theorem k_undo {σ τ : St} {S : Nat → Nat} {u top N : Nat} {H : Nat → Nat → Nat} (hN : 100 ≤ N) (hK : KRel σ τ S u top H) : actE σ τ S (f_X11_undo σ) (f_X12_undo N τ) := by
  have hh := hK
  obtain ⟨h1, h2, hW, h4, h5, h6, h7, h8⟩ := hh
  have c1 := h2.1
  have c2 := h2.2.1
  have hR0 := (KRel_thr hK (nI 0)).1
  obtain ⟨p1, p2, p3, p4, p5, p6⟩ := h8
  have q24 : (sI τ 206 0 (nI 0)).1 206 24 = nI u := by rw [sI1, if_pos rfl, if_neg (by decide)]; exact p5
  unfold f_X11_undo f_X5_takeBack f_X12_undo
  simp only [vl_q]
  rw [p4, q24, if_eq0 (by omega), if_eq0 (by omega)]
  by_cases hu : u = 0
  · rw [if_pos hu, if_pos hu, bd_q]
    exact actE_no hK _
  · rw [if_neg hu, if_neg hu]
    have et : (top + 9 - 1) % 9 = pos top u (u - 1) := by unfold pos; omega
    obtain ⟨r6, w6, t6, b6⟩ := p6 (u - 1) (by omega)
    have hp9 : pos top u (u - 1) < 9 := Nat.mod_lt _ (by decide)
    have x75 : reg (rr 76 (pos top u (u - 1))) ≠ 9 := by rw [(shP _ hp9).2]; omega
    have hF3 : Fr [9] σ (sI σ 75 1 (nI (pos top u (u - 1)))) := Fr.rf.sI (by decide +kernel)
    obtain ⟨σ2, ec, rc⟩ := c_copyScene (a := 49) (b := rr 76 (pos top u (u - 1))) (S := mix S (H (u - 1))) sh49.1 (shP _ hp9).1 (by rw [sh49.2, (shP _ hp9).2]; omega) (by rw [mix_o (by omega)]; exact c1) (by rw [mix_o (by omega)]; exact c2) (SRel_fr (shP _ hp9).1 hF3 (fun z => x75 (List.mem_singleton.mp z)) r6)
    have hF4 : Fr [4] (sI σ 75 1 (nI (pos top u (u - 1)))) σ2 := fr_X6_copyFrom sh49.1 (shP _ hp9).1 (fun x hx => absurd hx List.not_mem_nil) (by rw [sh49.2]; decide) ec
    have e75 : σ2.1 75 = (sI σ 75 1 (nI (pos top u (u - 1)))).1 75 := fr_row hF4 (by decide +kernel)
    have e752 : σ2.1 75 2 = nI u := by rw [e75, sI1, if_pos rfl, if_neg (by decide)]; exact p4
    rw [p3, nI_addq, nI_subq (by omega), rm_q (by omega) (by decide) (by decide), et]
    have e751 : (sI σ 75 1 (nI (pos top u (u - 1)))).1 75 1 = nI (pos top u (u - 1)) := by rw [sI1, if_pos rfl, if_pos rfl]
    rw [e751, ald_q hp9 (by decide), ec, bp_q, e752, nI_subq (by omega), bd_q]
    have n1 : (sI σ2 75 2 (nI (u - 1))).1 75 2 = nI (u - 1) := by rw [sI1, if_pos rfl, if_pos rfl]
    rw [n1]
    have fin : RS (mix S (win S)) (sI (sI τ 206 0 (nI 0)) 206 24 (nI (u - 1))) := by
      rw [mix_win]; exact RS_o hR0 (fun j => by rw [sI1, if_neg (by decide)])
    obtain ⟨τ2, e1, r2, f2⟩ := m_undoL (S := S) (w := H (u - 1)) (N := N) (v := u - 1) (k7 := fun (s15 : St) => some (s15.1 206 24, s15)) (by omega) N 0 (sI (sI τ 206 0 (nI 0)) 206 24 (nI (u - 1))) (by omega) (by omega)
      (by
        have e : mix S (fun j => if j < 0 then H (u - 1) j else S (147 + j)) = mix S (win S) := by
          unfold win
          exact congrArg (mix S) (funext fun j => if_neg (Nat.not_lt_zero j))
        rw [e]; exact fin)
      (by rw [sI1, if_pos rfl, if_pos rfl]) (fun j hj => by rw [sI1, if_neg (by decide), sI1, if_neg (by decide)]; exact b6 j hj)
    obtain ⟨g1, g2, g3⟩ := fr208 f2
    have t24 : τ2.1 206 24 = nI (u - 1) := by rw [g1, sI1, if_pos rfl, if_pos rfl]
    have t213 : τ2.1 213 = τ.1 213 := by rw [g2]; funext j; rw [sI1, if_neg (by decide), sI1, if_neg (by decide)]
    rw [e1, t24]
    have hO : sameO S (mix S (H (u - 1))) := fun j hj => mix_o hj
    have hFk : Fr [9] σ2 (sI σ2 75 2 (nI (u - 1))) := Fr.rf.sI (by decide +kernel)
    have hFa : Fr [4, 9] σ (sI σ2 75 2 (nI (u - 1))) := ((hF3.mono (by decide)).trans (hF4.mono (by decide))).trans (hFk.mono (by decide))
    refine ⟨_, _, _, mix S (H (u - 1)), u - 1, pos top u (u - 1), H, rfl, rfl, ?_, hO, hFa.mono (by decide), ?_, ?_⟩
    · refine ⟨r2, WFC_c hO.C h2, w6, t6, CRel_c hO.C h2 (CRel_fr hFa (by decide) c1 c2 h5), ARel_c hO.C h2 (ARel_fr hFa (by decide) c1 h6), SRel_fr sh49.1 hFk (by rw [sh49.2]; decide) rc, by omega, hp9, ?_, n1, t24, fun i hi => ?_⟩
      · rw [sI1, if_pos rfl, if_neg (by decide), e75, e751]
      · obtain ⟨a1, a2, a3, a4⟩ := p6 i (by omega)
        have ep : pos (pos top u (u - 1)) (u - 1) i = pos top u i := by unfold pos; omega
        have hpi : pos top u i < 9 := Nat.mod_lt _ (by decide)
        rw [ep, mix_mix]
        refine ⟨SRel_fr (shP _ hpi).1 hFa (fun z => ?_) a1, a2, a3, fun j hj => by rw [t213]; exact a4 j hj⟩
        rw [(shP _ hpi).2] at z
        simp only [List.mem_cons, List.not_mem_nil, or_false] at z
        omega
    · exact (((Fr.rf.sI (by decide +kernel)).sI (by decide +kernel)).trans (f2.mono (by decide)))
    · exact (((Fm.rf.sI (by decide)).sI (by decide)).trans g3)
