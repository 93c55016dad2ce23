/-! the acts, both sides -/
theorem fr208 {τ1 τ2 : St} (h : Fr [208] τ1 τ2) : τ2.1 206 = τ1.1 206 ∧ τ2.1 213 = τ1.1 213 ∧ Fm [0, 24] τ1 τ2 := ⟨fr_row h (by decide +kernel), fr_row h (by decide +kernel), fun k _ => ⟨congrFun (h 206 (by decide +kernel)).1 k, congrFun (h 206 (by decide +kernel)).2 k⟩⟩
theorem inR {x : Int32} {lo hi : Nat} (hh : hi < 100000) (hl : lo ≤ hi) (h : (nI lo).toInt ≤ x.toInt ∧ x.toInt ≤ (nI hi).toInt) : ∃ n, lo ≤ n ∧ n ≤ hi ∧ x = nI n := by
  rw [nI_toInt (by omega), nI_toInt (by omega)] at h
  obtain ⟨n, h1, h2⟩ := isN_e (x := x) (n := hi + 1) (decide_eq_true ⟨by omega, by omega⟩) (by omega)
  subst h2
  rw [nI_toInt (by omega)] at h
  exact ⟨n, by omega, by omega, rfl⟩
theorem act_all {σ τ : St} {S T : Nat → Nat} {u top N : Nat} {H : Nat → Nat → Nat} (hN : 1000 ≤ N) (hK : KRel σ τ S u top H) {act : St → Option (Int32 × St)} {W : Nat} (hW : W < 1000)
    (hA : ∀ σ1, CRel σ1 3 4 5 S → SRel σ1 49 S → ∃ σ2, act σ1 = some (nI W, σ2) ∧ SRel σ2 49 (actR W T S) ∧ Fr [4] σ1 σ2)
    (hO : sameO S T) (hT : W = 0 → WFW T) (h147 : T 147 = S 147) {M : Option (Int32 × St)}
    (hM : W ≠ 0 → M = some (nI W, sI τ 206 0 (nI 0)))
    (hM0 : W = 0 → ∀ τ1, f_X12_stores N (sI τ 206 0 (nI 0)) = some τ1 → RS S τ1 → ∃ τ2, M = some (nI 0, τ2) ∧ RS T τ2 ∧ Fr [208] τ1 τ2) :
    actE σ τ S (bp (f_X5_mark 49 σ) fun s2 => bd (act s2) fun v3 s4 => bd (f_X11_keepIfDone v3 s4) fun v5 s6 => some (v5, s6)) M := by
  have hh := hK
  obtain ⟨h1, h2, hW', h4, h5, h6, h7, h8⟩ := hh
  have c1 := h2.1
  have c2 := h2.2.1
  have hK0 := KRel_thr hK (nI 0)
  obtain ⟨σ1, em, rm, fm⟩ := c_mark h8.2.1 h8.2.2.1 c1 c2 h7
  have hK1 := K_mark hK fm
  obtain ⟨σ2, ea, ra, hF2⟩ := hA σ1 hK1.2.2.2.2.1 hK1.2.2.2.2.2.2.1
  rw [em, bp_q, ea, bd_q]
  unfold f_X11_keepIfDone
  rw [if_eq0 (by omega)]
  by_cases hw : W = 0
  · rw [hw] at ra
    unfold actR at ra
    rw [if_pos rfl] at ra
    obtain ⟨σ', τ1, u', top', H', e1, e2, r1, f1, fm1, fa, fin⟩ := act_done (T := T) hN hK0 fm rm hF2 ra hO (hT hw) (by rw [h147]; exact h4)
    obtain ⟨τ2, eM, rT, f2⟩ := hM0 hw τ1 e2 r1
    obtain ⟨g1, g2, g3⟩ := fr208 f2
    rw [if_pos hw, e1, bp_q, bd_q, hw, eM]
    refine ⟨_, _, _, T, u', top', H', rfl, rfl, fin _ rT (by rw [g1]) g2, hO, fa, ?_, ?_⟩
    · exact ((Fr.rf.sI (by decide +kernel)).trans (f1.mono (by decide))).trans (f2.mono (by decide))
    · exact ((Fm.rf.sI (by decide)).trans (fm1.mono (by decide))).trans g3
  · unfold actR at ra
    rw [if_neg hw] at ra
    rw [if_neg hw, bd_q, hM hw]
    have hKn : KRel σ2 (sI τ 206 0 (nI 0)) S u top H := by
      obtain ⟨g1, g2, g3, g4, g5, g6, g7, g8⟩ := KRel_thr hK1 (nI 0)
      exact ⟨g1, g2, g3, g4, CRel_fr hF2 (by decide) c1 c2 g5, ARel_fr hF2 (by decide) c1 g6, ra, PRel_fr g8 hF2 (by decide) (fun i hi z => by have := List.mem_singleton.mp z; omega) rfl rfl⟩
    exact ⟨_, _, _, S, u, top, H, rfl, rfl, hKn, sameO.rf S, (fm.mono (fun x hx => by rw [List.mem_singleton.mp hx]; exact p18 h8.2.1)).trans (hF2.mono (fun x hx => by rw [List.mem_singleton.mp hx]; decide)), Fr.rf.sI (by decide +kernel), Fm.rf.sI (by decide)⟩
theorem actE_no {σ τ : St} {S : Nat → Nat} {u top : Nat} {H : Nat → Nat → Nat} (hK : KRel σ τ S u top H) (r : Int32) : actE σ τ S (some (r, σ)) (some (r, sI τ 206 0 (nI 0))) :=
  ⟨_, _, _, S, u, top, H, rfl, rfl, KRel_thr hK (nI 0), sameO.rf S, Fr.rf, Fr.rf.sI (by decide +kernel), Fm.rf.sI (by decide)⟩
theorem k_kindle {σ τ : St} {S : Nat → Nat} {u top N : Nat} {H : Nat → Nat → Nat} (hN : 1000 ≤ N) (hK : KRel σ τ S u top H) (x : Int32) : actE σ τ S (f_X11_kindle x σ) (f_X12_kindle N x τ) := by
  have hh := hK
  obtain ⟨h1, h2, hW, h4, h5, h6, h7, h8⟩ := hh
  have c1 := h2.1
  have c2 := h2.2.1
  have hR0 := (KRel_thr hK (nI 0)).1
  unfold f_X11_kindle f_X12_kindle
  rw [c_isLight c1 h5.1 x, bp_q, if_bI, vl_q, m_isLight hR0 c1 x, bp_q, if_bI]
  by_cases hx : isN x (S 0) = true
  · obtain ⟨l, hl, rfl⟩ := isN_e hx (by omega)
    have hl8 : l < 8 := by omega
    rw [if_pos hx, if_pos hx]
    have eW : f_X12_whyKindle (nI l) (sI τ 206 0 (nI 0)) = some (nI (kinW S l)) := by
      unfold f_X12_whyKindle kinW
      rw [ald_S hR0 (by decide), m_bitOf hW.2.1.1 hl8, bp_q, if_bI, nI_addq, ald_S hR0 (by omega), if_eq0 (by have := (hW.2.2.2.1 l hl).1; omega)]
      have := m2 (S 148 / 2 ^ l)
      by_cases q : S 148 / 2 ^ l % 2 = 1
      · rw [if_pos (decide_eq_true q), if_neg (by omega : ¬ S 148 / 2 ^ l % 2 = 0)]
        split <;> rfl
      · rw [if_neg (fun z => q (of_decide_eq_true z)), if_pos (by omega : S 148 / 2 ^ l % 2 = 0)]
    rw [eW, bp_q]
    have w3 : kinW S l < 1000 := by
      unfold kinW
      split
      · decide
      · split <;> decide
    refine act_all (W := kinW S l) (T := kinT S l) hN hK w3 (fun σ1 q1 q2 => ?_) ((sameO.rf S).put (by decide) (by decide) _) (fun _ => kinT_W hW) (by unfold kinT; rw [put_ne (by decide)]) (fun hw => ?_) (fun hw τ1 e2 r1 => ?_)
    · obtain ⟨σ2, ea, ra⟩ := c_relight (l := l) sh49.1 c1 c2 hW q2 hl
      exact ⟨σ2, ea, ra, fr_X6_relight sh49.1 (fun x hx => absurd hx List.not_mem_nil) (by rw [sh49.2]; decide) ea⟩
    · rw [if_le0 (by omega), if_neg hw]
    · have q : S 148 / 2 ^ l % 2 = 1 := by
        unfold kinW at hw
        by_cases q0 : S 148 / 2 ^ l % 2 = 0
        · rw [if_pos q0] at hw; omega
        · have := m2 (S 148 / 2 ^ l); omega
      rw [if_le0 (by omega), if_pos hw, e2, bp_q, ald_S r1 (by decide), and_clr l hl8 _ hW.2.1.1 q, ald_q (by decide) (by decide)]
      exact ⟨_, rfl, RS_put r1 _ _, Fr.rf.sI (by decide +kernel)⟩
  · rw [if_neg hx, if_neg hx]
    exact actE_no hK _
theorem rng {T : Type} {x : Int32} {lo hi : Nat} (hh : hi < 100000) (hl : lo ≤ hi) {A B : T} : (if x < nI lo then A else if x ≤ nI hi then B else A) = if decide ((nI lo).toInt ≤ x.toInt ∧ x.toInt ≤ (nI hi).toInt) = true then B else A := by
  by_cases q : (nI lo).toInt ≤ x.toInt ∧ x.toInt ≤ (nI hi).toInt
  · rw [if_pos (decide_eq_true q), if_neg (by rw [Int32.lt_iff_toInt_lt]; omega), if_pos (by rw [Int32.le_iff_toInt_le]; exact q.2)]
  · rw [if_neg (fun z => q (of_decide_eq_true z))]
    split
    · rfl
    · rename_i g
      rw [Int32.lt_iff_toInt_lt] at g
      exact if_neg (by rw [Int32.le_iff_toInt_le]; omega)
theorem rng0 {T : Type} {x : Int32} {hi : Nat} (hh : hi < 100000) {A B : T} : (if x < 0 then A else if x ≤ nI hi then B else A) = if decide ((nI 0).toInt ≤ x.toInt ∧ x.toInt ≤ (nI hi).toInt) = true then B else A := rng (lo := 0) hh (Nat.zero_le _)
theorem k_fill {σ τ : St} {S : Nat → Nat} {u top N : Nat} {H : Nat → Nat → Nat} (hN : 1000 ≤ N) (hK : KRel σ τ S u top H) (x y : Int32) : actE σ τ S (f_X11_fill x y σ) (f_X12_fill N x y τ) := by
  have hh := hK
  obtain ⟨h1, h2, hW, h4, h5, h6, h7, h8⟩ := hh
  have c1 := h2.1
  have c2 := h2.2.1
  have hR0 := (KRel_thr hK (nI 0)).1
  unfold f_X11_fill f_X12_fill
  rw [c_isLight c1 h5.1 x, bp_q, if_bI, vl_q, m_isLight hR0 c1 x, bp_q, if_bI]
  by_cases hx : isN x (S 0) = true
  · obtain ⟨l, hl, rfl⟩ := isN_e hx (by omega)
    have hl8 : l < 8 := by omega
    rw [if_pos hx, if_pos hx, m_isIn, bp_q, if_bI, rng (by decide) (by decide)]
    by_cases hy : (nI 1).toInt ≤ y.toInt ∧ y.toInt ≤ (nI 999).toInt
    · obtain ⟨n, n1, n2, rfl⟩ := inR (by decide) (by decide) hy
      rw [if_pos (decide_eq_true hy), if_pos (decide_eq_true hy)]
      have o9 := (hW.2.2.2.1 l hl).1
      have eW : f_X12_whyFill (nI l) (nI n) (sI τ 206 0 (nI 0)) = some (nI (filW S l n)) := by
        unfold f_X12_whyFill filW
        rw [nI_addq, ald_S hR0 (by omega), nI_addq, if_leq (by omega) (by decide)]
        split <;> rfl
      rw [eW, bp_q]
      have w3 : filW S l n < 2 := by unfold filW; split <;> decide
      refine act_all (W := filW S l n) (T := filT S l n) hN hK (by omega) (fun σ1 q1 q2 => ?_) ((sameO.rf S).put (by omega) (by omega) _) (fun hw => filT_W hl c1 hW hw) (by unfold filT; rw [put_ne (by omega)]) (fun hw => ?_) (fun hw τ1 e2 r1 => ?_)
      · obtain ⟨σ2, ea, ra⟩ := c_pourInto (l := l) (n := n) sh49.1 c1 c2 hW q2 hl (by omega)
        exact ⟨σ2, ea, ra, fr_X6_pourInto sh49.1 (fun x hx => absurd hx List.not_mem_nil) (by rw [sh49.2]; decide) ea⟩
      · rw [if_le0 (by omega), if_neg hw, show filW S l n = 1 by omega]
      · rw [if_le0 (by omega), if_pos hw, e2, bp_q, nI_addq, ald_S r1 (by omega), nI_addq, ald_q (by omega) (by decide)]
        exact ⟨_, rfl, RS_put r1 _ _, Fr.rf.sI (by decide +kernel)⟩
    · rw [if_neg (fun z => hy (of_decide_eq_true z)), if_neg (fun z => hy (of_decide_eq_true z))]
      exact actE_no hK _
  · rw [if_neg hx, if_neg hx]
    exact actE_no hK _
theorem k_shift {σ τ : St} {S : Nat → Nat} {u top N : Nat} {H : Nat → Nat → Nat} (hN : 1000 ≤ N) (hK : KRel σ τ S u top H) (x y : Int32) : actE σ τ S (f_X11_shift x y σ) (f_X12_shift N x y τ) := by
  have hh := hK
  obtain ⟨h1, h2, hW, h4, h5, h6, h7, h8⟩ := hh
  have c1 := h2.1
  have c2 := h2.2.1
  have hR0 := (KRel_thr hK (nI 0)).1
  unfold f_X11_shift f_X12_shift
  rw [c_isLight c1 h5.1 x, bp_q, if_bI, vl_q, m_isLight hR0 c1 x, bp_q, if_bI]
  by_cases hx : isN x (S 0) = true
  · obtain ⟨l, hl, rfl⟩ := isN_e hx (by omega)
    have hl8 : l < 8 := by omega
    have hwl := h2.2.2.2.1 l hl
    have f4 : S (43 + l) ≤ 4 := hwl.2.2.2.2.2.1
    rw [if_pos hx, if_pos hx, m_isIn, bp_q, if_bI, rng (by decide) (by decide)]
    by_cases hy : (nI 1).toInt ≤ y.toInt ∧ y.toInt ≤ (nI 59).toInt
    · obtain ⟨n, n1, n2, rfl⟩ := inR (by decide) (by decide) hy
      rw [if_pos (decide_eq_true hy), if_pos (decide_eq_true hy), nI_addq, ald_S hR0 (by omega), if_eq0 (by omega)]
      have s9 := (hW.2.2.2.1 l hl).2
      have w3 : shfW S l < 2 := by unfold shfW; split <;> decide
      refine act_all (W := shfW S l) (T := shfT S l n) hN hK (by omega) (fun σ1 q1 q2 => ?_) ((sameO.rf S).put (by omega) (by omega) _) (fun hw => shfT_W hl c1 h2 hW) (by unfold shfT; rw [put_ne (by omega)]) (fun hw => ?_) (fun hw τ1 e2 r1 => ?_)
      · obtain ⟨σ2, ea, ra⟩ := c_moveOn (l := l) (n := n) sh49.1 h2 hW q1 q2 hl (by omega)
        exact ⟨σ2, ea, ra, fr_X6_moveOn sh49.1 (fun x hx => absurd hx List.not_mem_nil) (by rw [sh49.2]; decide) ea⟩
      · have q : S (43 + l) = 0 := by
          unfold shfW at hw
          by_cases q : S (43 + l) = 0
          · exact q
          · rw [if_neg q] at hw; omega
        rw [if_pos q, show shfW S l = 1 by omega]
      · have q : ¬ S (43 + l) = 0 := fun q => by
          unfold shfW at hw
          rw [if_pos q] at hw; omega
        have hp := perS_le hwl
        rw [if_neg q, e2, bp_q]
        unfold f_X12_turns
        rw [nI_addq, ald_S r1 (by omega), m_periodOf (by omega) r1 hl8 hwl, bp_q, nI_addq, rm_q (by omega) (perS_pos S l) (by omega), ald_q (by omega) (by decide), bp_q]
        exact ⟨_, rfl, RS_put r1 _ _, Fr.rf.sI (by decide +kernel)⟩
    · rw [if_neg (fun z => hy (of_decide_eq_true z)), if_neg (fun z => hy (of_decide_eq_true z))]
      exact actE_no hK _
  · rw [if_neg hx, if_neg hx]
    exact actE_no hK _
theorem k_steer {σ τ : St} {S : Nat → Nat} {u top N : Nat} {H : Nat → Nat → Nat} (hN : 1000 ≤ N) (hK : KRel σ τ S u top H) (x y : Int32) : actE σ τ S (f_X11_steer x y σ) (f_X12_steer N x y τ) := by
  have hh := hK
  obtain ⟨h1, h2, hW, h4, h5, h6, h7, h8⟩ := hh
  have c1 := h2.1
  have c2 := h2.2.1
  have hR0 := (KRel_thr hK (nI 0)).1
  unfold f_X11_steer f_X12_steer
  rw [c_isShip c2 h5.2.1 x, bp_q, if_bI, vl_q, m_isShip hR0 c2 x, bp_q, if_bI]
  by_cases hx : isN x (S 1) = true
  · obtain ⟨l, hl, rfl⟩ := isN_e hx (by omega)
    have hl8 : l < 4 := by omega
    rw [if_pos hx, if_pos hx, m_isIn, bp_q, if_bI, rng0 (by decide)]
    by_cases hy : (nI 0).toInt ≤ y.toInt ∧ y.toInt ≤ (nI 8).toInt
    · obtain ⟨n, n1, n2, rfl⟩ := inR (by decide) (by decide) hy
      have c8 := (hW.2.2.2.2 l hl).2.2
      rw [if_pos (decide_eq_true hy), if_pos (decide_eq_true hy), nI_addq, ald_S hR0 (by omega), if_eqq (by omega) (by omega)]
      have w3 : steW S l n < 2 := by unfold steW; split <;> decide
      refine act_all (W := steW S l n) (T := steT S l n) hN hK (by omega) (fun σ1 q1 q2 => ?_) ((sameO.rf S).put (by omega) (by omega) _) (fun hw => steT_W hl c1 c2 hW n2) (by unfold steT; rw [put_ne (by omega)]) (fun hw => ?_) (fun hw τ1 e2 r1 => ?_)
      · obtain ⟨σ2, ea, ra⟩ := c_turn (k := l) (c := n) sh49.1 c1 c2 hW q2 hl (by omega)
        exact ⟨σ2, ea, ra, fr_X6_turn sh49.1 (fun x hx => absurd hx List.not_mem_nil) (by rw [sh49.2]; decide) ea⟩
      · have q : S (174 + l) = n := by
          unfold steW at hw
          by_cases q : S (174 + l) = n
          · exact q
          · rw [if_neg q] at hw; omega
        rw [if_pos q, show steW S l n = 1 by omega]
      · have q : ¬ S (174 + l) = n := fun q => by
          unfold steW at hw
          rw [if_pos q] at hw; omega
        rw [if_neg q, e2, bp_q, ald_q (by omega) (by decide)]
        exact ⟨_, rfl, RS_put r1 _ _, Fr.rf.sI (by decide +kernel)⟩
    · rw [if_neg (fun z => hy (of_decide_eq_true z)), if_neg (fun z => hy (of_decide_eq_true z))]
      exact actE_no hK _
  · rw [if_neg hx, if_neg hx]
    exact actE_no hK _
theorem k_haze {σ τ : St} {S : Nat → Nat} {u top N : Nat} {H : Nat → Nat → Nat} (hN : 1000 ≤ N) (hK : KRel σ τ S u top H) (y : Int32) : actE σ τ S (f_X11_haze y σ) (f_X12_haze N y τ) := by
  have hh := hK
  obtain ⟨h1, h2, hW, h4, h5, h6, h7, h8⟩ := hh
  have c1 := h2.1
  have c2 := h2.2.1
  have hR0 := (KRel_thr hK (nI 0)).1
  unfold f_X11_haze f_X12_haze
  rw [vl_q, m_isIn, bp_q, if_bI, rng (by decide) (by decide)]
  by_cases hy : (nI 1).toInt ≤ y.toInt ∧ y.toInt ≤ (nI 30).toInt
  · obtain ⟨n, n1, n2, rfl⟩ := inR (by decide) (by decide) hy
    have c8 := hW.2.2.1
    rw [if_pos (decide_eq_true hy), if_pos (decide_eq_true hy), ald_S hR0 (by omega), if_eqq (by omega) (by omega)]
    have w3 : hazW S n < 2 := by unfold hazW; split <;> decide
    refine act_all (W := hazW S n) (T := hazT S n) hN hK (by omega) (fun σ1 q1 q2 => ?_) ((sameO.rf S).put (by omega) (by omega) _) (fun hw => hazT_W hW ⟨n1, n2⟩) (by unfold hazT; rw [put_ne (by omega)]) (fun hw => ?_) (fun hw τ1 e2 r1 => ?_)
    · obtain ⟨σ2, ea, ra⟩ := c_setHaze (n := n) sh49.1 c1 c2 hW q2 (by omega)
      exact ⟨σ2, ea, ra, fr_X6_setHaze sh49.1 (fun x hx => absurd hx List.not_mem_nil) (by rw [sh49.2]; decide) ea⟩
    · have q : S 149 = n := by
        unfold hazW at hw
        by_cases q : S 149 = n
        · exact q
        · rw [if_neg q] at hw; omega
      rw [if_pos q, show hazW S n = 1 by omega]
    · have q : ¬ S 149 = n := fun q => by
        unfold hazW at hw
        rw [if_pos q] at hw; omega
      rw [if_neg q, e2, bp_q, ald_q (by omega) (by decide)]
      exact ⟨_, rfl, RS_put r1 _ _, Fr.rf.sI (by decide +kernel)⟩
  · rw [if_neg (fun z => hy (of_decide_eq_true z)), if_neg (fun z => hy (of_decide_eq_true z))]
    exact actE_no hK _
