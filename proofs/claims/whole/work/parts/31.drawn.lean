/-! drawn and odds: both sides -/
theorem wentS_le {S : Nat → Nat} {n : Nat} : wentS S n ≤ n ∧ wentS S n ≤ 3600 - S 147 := ⟨Nat.min_le_left .., Nat.min_le_right ..⟩
theorem c_lives {S : Nat → Nat} {σ : St} {N n b : Nat} {x : Int32} (hN : 2000 ≤ N) (hb : sh b = 6) (hr : reg b ≠ 2) (hr9 : reg b ≠ 19) (hC : WFC S) (hW : WFW S) (hM : CRel σ 3 4 5 S) (hn : n ≤ 1000) (h3 : S 147 ≤ 3600) (hS : SRel σ b S) : ∃ s1 s', f_X2_begin x σ = some s1 ∧ f_X2_liveSeconds N b (nI n) s1 = some (nI (wentS S n), s') ∧ SRel s' b (dsN x S (wentS S n)).2 ∧ Fr [reg b, 19] σ s' := by
  have hw := wentS_le (S := S) (n := n)
  have f0 : Fr [19] σ (sI σ 131 0 x) := F131
  have n19 : reg b ∉ [19] := fun z => hr9 (List.mem_singleton.mp z)
  obtain ⟨s', r, f, e⟩ := c_livL (σ := σ) (N := N) (n := n) (x := x) (by omega) hb hr hr9 hC hW hM hn h3 N 0 (sI σ 131 0 x) (by omega) (by omega) (SRel_fr hb f0 n19 hS) (by rw [sI1, if_pos rfl, if_pos rfl]; rfl) (f0.mono (fun y hy => List.mem_cons_of_mem _ hy))
  exact ⟨_, s', rfl, e, r, f⟩
theorem m_drws {S : Nat → Nat} {τ : St} {N n : Nat} {x : Int32} (hN : 2000 ≤ N) (hC : WFC S) (hW : WFW S) (hn : n ≤ 1000) (h3 : S 147 ≤ 3600) (hR : RS S τ) : ∃ τ', f_X12_draws N (nI n) x τ = some (nI (wentS S n), τ') ∧ RS (dsN x S (wentS S n)).2 τ' ∧ Fr [206, 208] τ τ' ∧ Fm [39] τ τ' := by
  have hw := wentS_le (S := S) (n := n)
  obtain ⟨s', r, f, g, e⟩ := m_drwL (τ0 := τ) (N := N) (n := n) (x := x) (by omega) hC hW hn h3 N 0 (sI τ 206 39 x) (by omega) (by omega) (RS_o hR (fun j => by rw [sI1, if_neg (by decide)])) (by rw [sI1, if_pos rfl, if_pos rfl]; rfl) (Fr.rf.sI (by decide +kernel)) (Fm.rf.sI (by decide))
  exact ⟨s', e, r, f, g⟩
/-- as actE, the seeds too -/
def actD (σ τ : St) (S : Nat → Nat) (a : Option (Int32 × St)) (b : Option (Int32 × St)) : Prop := ∃ (r : Int32) (σ' τ' : St) (S' : Nat → Nat) (u' top' : Nat) (H' : Nat → Nat → Nat), a = some (r, σ') ∧ b = some (r, τ') ∧ KRel σ' τ' S' u' top' H' ∧ sameO S S' ∧ Fr [4, 9, 10, 11, 12, 13, 14, 15, 16, 17, 18, 19] σ σ' ∧ Fr [206, 208, 213] τ τ' ∧ Fm [0, 24, 39] τ τ'
theorem p18D {top : Nat} (ht : top < 9) : 10 + top ∈ [4, 9, 10, 11, 12, 13, 14, 15, 16, 17, 18, 19] := by
  have : ∀ t, t < 9 → 10 + t ∈ [4, 9, 10, 11, 12, 13, 14, 15, 16, 17, 18, 19] := by decide
  exact this top ht
theorem PRel_kepD {σ σ1 τ τ1 : St} {S : Nat → Nat} {u top : Nat} {H : Nat → Nat → Nat} (h : PRel σ τ S u top H) (hW : WFW S) (h3 : S 147 ≤ 3600) (hF : Fr [10 + top, 4, 19] σ σ1) (hS : SRel σ1 (rr 76 top) S) (e24 : τ1.1 206 24 = nI (min (u + 1) 8)) (e213 : ∀ i, i < min (u + 1) 8 → ∀ j, j < 31 → τ1.1 213 (31 * i + j) = nI (newH u H (win S) i j)) : PRel (sI (sI σ1 75 1 (nI ((top + 1) % 9))) 75 2 (nI (min (u + 1) 8))) τ1 S (min (u + 1) 8) ((top + 1) % 9) (newH u H (win S)) := by
  obtain ⟨g1, g2, g3, g4, g5, g6⟩ := h
  refine ⟨Nat.min_le_right .., Nat.mod_lt _ (by decide), by rw [sI1, if_pos rfl, if_neg (by decide), sI1, if_pos rfl, if_pos rfl], by rw [sI1, if_pos rfl, if_pos rfl], e24, fun i hi => ?_⟩
  have hFp : Fr [9] σ1 (sI (sI σ1 75 1 (nI ((top + 1) % 9))) 75 2 (nI (min (u + 1) 8))) := (Fr.rf.sI (by decide +kernel)).sI (by decide +kernel)
  have old : ∀ k, k < u → SRel (sI (sI σ1 75 1 (nI ((top + 1) % 9))) 75 2 (nI (min (u + 1) 8))) (rr 76 (pos top u k)) (mix S (H k)) := fun k hk => by
    have hl : pos top u k < 9 := Nat.mod_lt _ (by decide)
    have hs := shP _ hl
    have hpt := pos_top g1 g2 hk
    refine SRel_fr hs.1 hFp (by rw [hs.2]; intro z; have := List.mem_singleton.mp z; omega) (SRel_fr hs.1 hF (by rw [hs.2]; intro z; simp only [List.mem_cons, List.not_mem_nil, or_false] at z; omega) (g6 k hk).1)
  have cur : SRel (sI (sI σ1 75 1 (nI ((top + 1) % 9))) 75 2 (nI (min (u + 1) 8))) (rr 76 top) (mix S (win S)) := by
    rw [mix_win]
    have hs := shP top g2
    exact SRel_fr hs.1 hFp (by rw [hs.2]; intro z; have := List.mem_singleton.mp z; omega) hS
  have hq := fun j hj => e213 i hi j hj
  unfold newH at hq ⊢
  by_cases h8 : u = 8
  · subst h8
    simp only [if_true] at hq ⊢
    by_cases q : i < 7
    · simp only [if_pos q] at hq ⊢
      rw [show pos ((top + 1) % 9) (min (8 + 1) 8) i = pos top 8 (i + 1) by unfold pos; omega]
      exact ⟨old (i + 1) (by omega), (g6 (i + 1) (by omega)).2.1, (g6 (i + 1) (by omega)).2.2.1, hq⟩
    · simp only [if_neg q] at hq ⊢
      rw [show pos ((top + 1) % 9) (min (8 + 1) 8) i = top by unfold pos; omega]
      exact ⟨cur, by rw [mix_win]; exact hW, by rw [mix_win]; exact h3, hq⟩
  · simp only [if_neg h8] at hq ⊢
    by_cases q : i < u
    · simp only [if_pos q] at hq ⊢
      rw [show pos ((top + 1) % 9) (min (u + 1) 8) i = pos top u i by unfold pos; omega]
      exact ⟨old i q, (g6 i q).2.1, (g6 i q).2.2.1, hq⟩
    · simp only [if_neg q] at hq ⊢
      rw [show pos ((top + 1) % 9) (min (u + 1) 8) i = top by unfold pos; omega]
      exact ⟨cur, by rw [mix_win]; exact hW, by rw [mix_win]; exact h3, hq⟩
theorem act_donD {σ σ1 σ2 τ : St} {S T : Nat → Nat} {u top N : Nat} {H : Nat → Nat → Nat} (hN : 1000 ≤ N) (h : KRel σ τ S u top H) (hF1 : Fr [10 + top] σ σ1) (hm : SRel σ1 (rr 76 top) S) (hF2 : Fr [4, 19] σ1 σ2) (hS2 : SRel σ2 49 T) (hO : sameO S T) (hT : WFW T) (h3 : T 147 ≤ 3600) : ∃ σ' τ1 u' top' H', f_X5_keep σ2 = some σ' ∧ f_X12_stores N τ = some τ1 ∧ RS S τ1 ∧ Fr [206, 213] τ τ1 ∧ Fm [24] τ τ1 ∧ Fr [4, 9, 10, 11, 12, 13, 14, 15, 16, 17, 18, 19] σ σ' ∧ ∀ τ2, RS T τ2 → τ2.1 206 24 = τ1.1 206 24 → τ2.1 213 = τ1.1 213 → KRel σ' τ2 T u' top' H' := by
  obtain ⟨h1, h2, hW, h4, h5, h6, h7, h8⟩ := h
  obtain ⟨p1, p2, p3, p4, p5, p6⟩ := h8
  obtain ⟨τ1, e1, a24, a213, f1, fm1⟩ := m_stores hN p1 h1 p5 (fun i hi j hj => (p6 i hi).2.2.2 j hj)
  have f12 : Fr [10 + top, 4, 19] σ σ2 := (hF1.mono (fun x hx => List.mem_cons.mpr (Or.inl (List.mem_singleton.mp hx)))).trans (hF2.mono (fun x hx => List.mem_cons_of_mem _ hx))
  have n9 : reg 75 ∉ [10 + top, 4, 19] := fun z => by
    rw [show reg 75 = 9 from by decide +kernel] at z
    simp only [List.mem_cons, List.not_mem_nil, or_false] at z; omega
  have e75 := fr_row f12 n9
  have ek := c_keep (σ := σ2) p1 p2 (by rw [e75]; exact p3) (by rw [e75]; exact p4)
  have nT : reg (rr 76 top) ∉ [4, 19] := fun z => by
    rw [(shP top p2).2] at z
    simp only [List.mem_cons, List.not_mem_nil, or_false] at z; omega
  have hP := PRel_kepD (σ := σ) (σ1 := σ2) (τ := τ) (τ1 := τ1) ⟨p1, p2, p3, p4, p5, p6⟩ hW h4 f12 (SRel_fr (shP top p2).1 hF2 nT hm) a24 a213
  have hFk : Fr [9] σ2 (sI (sI σ2 75 1 (nI ((top + 1) % 9))) 75 2 (nI (min (u + 1) 8))) := (Fr.rf.sI (by decide +kernel)).sI (by decide +kernel)
  have hFa : Fr [4, 9, 10, 11, 12, 13, 14, 15, 16, 17, 18, 19] σ (sI (sI σ2 75 1 (nI ((top + 1) % 9))) 75 2 (nI (min (u + 1) 8))) :=
    ((hF1.mono (fun x hx => by rw [List.mem_singleton.mp hx]; exact p18D p2)).trans (hF2.mono (by decide))).trans (hFk.mono (fun x hx => by rw [List.mem_singleton.mp hx]; decide))
  have n2' : 2 ∉ [4, 9, 10, 11, 12, 13, 14, 15, 16, 17, 18, 19] := by decide
  refine ⟨_, τ1, min (u + 1) 8, (top + 1) % 9, newH u H (win S), ek, e1, RS_o h1 (fun j => by rw [fr_row f1 (by decide +kernel)]), f1, fm1, hFa, fun τ2 hR2 q24 q213 => ?_⟩
  refine ⟨hR2, WFC_c hO.C h2, hT, h3, CRel_c hO.C h2 (CRel_fr hFa n2' h2.1 h2.2.1 h5), ARel_c hO.C h2 (ARel_fr hFa n2' h2.1 h6), SRel_fr sh49.1 hFk (by rw [sh49.2]; decide) hS2, ?_⟩
  exact PRel_S (PRel_fr hP Fr.rf List.not_mem_nil (fun _ _ => List.not_mem_nil) q24 q213) (fun j hj => (hO j hj).symm)
theorem KRel_s {σ σ' τ : St} {S : Nat → Nat} {u top : Nat} {H : Nat → Nat → Nat} {R : List Nat} (h : KRel σ τ S u top H) (hF : Fr R σ σ') (n2' : 2 ∉ R) (n9 : 9 ∉ R) (np : ∀ i, i < u → 10 + pos top u i ∉ R) (hS : SRel σ' 49 S) : KRel σ' τ S u top H := by
  obtain ⟨h1, h2, h3, h4, h5, h6, h7, h8⟩ := h
  exact ⟨h1, h2, h3, h4, CRel_fr hF n2' h2.1 h2.2.1 h5, ARel_fr hF n2' h2.1 h6, hS, PRel_fr h8 hF n9 np rfl rfl⟩
theorem actD_no {σ τ : St} {S : Nat → Nat} {u top : Nat} {H : Nat → Nat → Nat} (hK : KRel σ τ S u top H) (r : Int32) : actD σ τ S (some (r, σ)) (some (r, sI τ 206 0 (nI 0))) :=
  ⟨_, _, _, S, u, top, H, rfl, rfl, KRel_thr hK (nI 0), sameO.rf S, Fr.rf, Fr.rf.sI (by decide +kernel), Fm.rf.sI (by decide)⟩
theorem k_drawn {σ τ : St} {S : Nat → Nat} {u top N : Nat} {H : Nat → Nat → Nat} (hN : 2000 ≤ N) (hK : KRel σ τ S u top H) (y x : Int32) : actD σ τ S (f_X11_drawn N y x σ) (f_X12_drawn N y x τ) := by
  have hh := hK
  obtain ⟨h1, h2, hW, h4, h5, h6, h7, h8⟩ := hh
  have c1 := h2.1
  have c2 := h2.2.1
  have hK0 := KRel_thr hK (nI 0)
  have hR0 := hK0.1
  unfold f_X11_drawn f_X12_drawn
  rw [vl_q, m_isIn, bp_q, if_bI, rng (by decide) (by decide)]
  by_cases hy : (nI 1).toInt ≤ y.toInt ∧ y.toInt ≤ (nI 60).toInt
  · obtain ⟨n, n1, n2, rfl⟩ := inR (by decide) (by decide) hy
    rw [if_pos (decide_eq_true hy), if_pos (decide_eq_true hy), ald_S hR0 (by decide), jn_q, if_leq (by decide) (by omega)]
    obtain ⟨σ1, em, rm, fm⟩ := c_mark h8.2.1 h8.2.2.1 c1 c2 h7
    have hK1 := K_mark hK fm
    obtain ⟨σ2, σ3, eb, el, rl, fl⟩ := c_lives (N := N) (n := n) (b := 49) (x := x) hN sh49.1 (by rw [sh49.2]; decide) (by rw [sh49.2]; decide) h2 hW hK1.2.2.2.2.1 (by omega) h4 hK1.2.2.2.2.2.2.1
    rw [sh49.2] at fl
    have hw := wentS_le (S := S) (n := n)
    have hwd : wentS S n = min n (3600 - S 147) := rfl
    rw [em, bp_q, eb, bp_q, el, bd_q]
    unfold f_X11_keepIfAny
    rw [if_le0 (by omega)]
    by_cases q : S 147 = 3600
    · have w0 : wentS S n = 0 := by omega
      obtain ⟨τ2, eg, rg, fg, gg⟩ := m_drws (N := N) (n := n) (x := x) hN h2 hW (by omega) h4 hR0
      rw [if_pos w0, if_pos (by omega), bd_q]
      dsimp only
      rw [eg, bd_q, w0]
      rw [w0] at rl rg
      have q208 : (dsN x S 0).2 = S := rfl
      rw [q208] at rl rg
      have hKn : KRel σ3 (sI τ 206 0 (nI 0)) S u top H := KRel_s (KRel_thr hK1 (nI 0)) fl (by decide) (by decide) (fun i hi z => by
        simp only [List.mem_cons, List.not_mem_nil, or_false] at z
        have hp : pos top u i < 9 := Nat.mod_lt _ (by decide)
        omega) rl
      obtain ⟨g1, g2, g3, g4, g5, g6, g7, g8⟩ := hKn
      refine ⟨_, _, _, S, u, top, H, rfl, rfl, ⟨rg, g2, g3, g4, g5, g6, g7, PRel_fr g8 Fr.rf List.not_mem_nil (fun _ _ => List.not_mem_nil) (gg 24 (by decide)).1.symm (fr_row fg (by decide +kernel))⟩, sameO.rf S, (fm.mono (fun x hx => by rw [List.mem_singleton.mp hx]; exact p18D h8.2.1)).trans (fl.mono (by decide)), ?_, ?_⟩
      · exact (Fr.rf.sI (by decide +kernel)).trans (fg.mono (by decide))
      · exact (Fm.rf.sI (by decide)).trans (gg.mono (by decide))
    · have w0 : ¬ wentS S n = 0 := by omega
      obtain ⟨hO, hWd, h147⟩ := dsN_ok (x := x) h2 hW (wentS S n) (by omega)
      obtain ⟨σ', τ1, u', top', H', e1, e2, r1, f1, fm1, fa, fin⟩ := act_donD (N := N) (T := (dsN x S (wentS S n)).2) (by omega) hK0 fm rm fl rl hO hWd (by omega)
      obtain ⟨τ2, eg, rg, fg, gg⟩ := m_drws (N := N) (n := n) (x := x) hN h2 hW (by omega) h4 r1
      rw [if_neg w0, if_neg (by omega), e1, bp_q, bd_q, e2, bp_q]
      dsimp only
      rw [eg, bd_q]
      refine ⟨_, _, _, _, u', top', H', rfl, rfl, fin _ rg (gg 24 (by decide)).1.symm (fr_row fg (by decide +kernel)), hO, fa, ?_, ?_⟩
      · exact ((Fr.rf.sI (by decide +kernel)).trans (f1.mono (by decide))).trans (fg.mono (by decide))
      · exact ((Fm.rf.sI (by decide)).trans (fm1.mono (by decide))).trans (gg.mono (by decide))
  · rw [if_neg (fun z => hy (of_decide_eq_true z)), if_neg (fun z => hy (of_decide_eq_true z))]
    exact actD_no hK _
/-! odds -/
noncomputable def oddS (S : Nat → Nat) (k : Nat) (x : Int32) : Nat → Nat
  | 0 => 0
  | n + 1 => oddS S k x n + if seesS (dsN (x + nI n) S (wentS S 30)).2 k = 0 then 0 else 1
theorem oddS_le (S : Nat → Nat) (k : Nat) (x : Int32) : ∀ n, oddS S k x n ≤ n
  | 0 => Nat.le_refl _
  | n + 1 => by have := oddS_le S k x n; rw [oddS]; split <;> omega
theorem c_oddL {S : Nat → Nat} {σ : St} {N k n : Nat} {x : Int32} (hN : 2000 ≤ N) (hC : WFC S) (hW : WFW S) (h3 : S 147 ≤ 3600) (hM : CRel σ 3 4 5 S) (hS : SRel σ 49 S) (hk : k < S 1) (hn : n ≤ 30) : ∀ m i s, i ≤ n → n - i < m → Fr [5, 19] σ s → ∃ s', f_X11_odds_L27 N (nI k) (nI n) x m (nI (oddS S k x i)) (nI i) s = some (nI (oddS S k x n), s') ∧ Fr [5, 19] σ s' := by
  have c1 := hC.1
  have c2 := hC.2.1
  intro m
  induction m with
  | zero => intro i s _ h; omega
  | succ m ih =>
    intro i s hi hm hF
    have ho := oddS_le S k x i
    rw [f_X11_odds_L27, if_leq (by omega) (by omega)]
    by_cases hc : n ≤ i
    · rw [if_pos hc]
      obtain rfl : i = n := by omega
      exact ⟨s, rfl, hF⟩
    · obtain ⟨s1, ec, rc⟩ := c_copyScene (a := 55) (b := 49) sh55.1 sh49.1 (by rw [sh55.2, sh49.2]; decide) c1 c2 (SRel_fr sh49.1 hF (by rw [sh49.2]; decide) hS)
      have f1 : Fr [5] s s1 := fr_X6_copyFrom sh55.1 sh49.1 (fun x hx => absurd hx List.not_mem_nil) (by rw [sh55.2]; decide) ec
      have hF1 : Fr [5, 19] σ s1 := hF.trans (f1.mono (by decide))
      obtain ⟨s2, s3, eb, el, rl, fl⟩ := c_lives (N := N) (n := 30) (b := 55) (x := x + nI i) hN sh55.1 (by rw [sh55.2]; decide) (by rw [sh55.2]; decide) hC hW (CRel_fr hF1 (by decide) c1 c2 hM) (by omega) h3 rc
      rw [sh55.2] at fl
      have hF3 := hF1.trans fl
      have hw := wentS_le (S := S) (n := 30)
      obtain ⟨d1, d2, d3⟩ := dsN_ok (x := x + nI i) hC hW (wentS S 30) (by omega)
      have hC' := WFC_c d1.C hC
      have hlt := sees_lt hC'.1 k
      rw [if_neg hc, ec, bp_q, eb, bp_q, el, bd_q, c_seenBy (by omega) hC' d2 (CRel_c d1.C hC (CRel_fr hF3 (by decide) c1 c2 hM)) rl (by rw [d1 1 (by decide)]; exact hk), bp_q, jn_q, if_eq0 (by omega)]
      obtain ⟨s', e, f⟩ := ih (i + 1) s3 (by omega) (by omega) hF3
      rw [oddS] at e
      simp only [vl_q, nI_addq]
      by_cases z : seesS (dsN (x + nI i) S (wentS S 30)).2 k = 0
      · rw [if_pos z]; rw [if_pos z, Nat.add_zero] at e
        exact ⟨s', e, f⟩
      · rw [if_neg z]; rw [if_neg z] at e
        exact ⟨s', e, f⟩
theorem m_oddL {S : Nat → Nat} {τ : St} {N k n : Nat} {x : Int32} (hN : 2000 ≤ N) (hC : WFC S) (hW : WFW S) (h3 : S 147 ≤ 3600) (hk : k < S 1) (hn : n ≤ 30) : ∀ m i s, i ≤ n → n - i < m → RS S s → (∀ j, j < 31 → s.1 214 j = nI (win S j)) → Fr [206, 208] τ s → Fm [39] τ s → ∃ s', f_X12_odds_L35 N (nI k) (nI n) x m (nI (oddS S k x i)) (nI i) s = some (nI (oddS S k x n), s') ∧ RS S s' ∧ Fr [206, 208] τ s' ∧ Fm [39] τ s' := by
  have c1 := hC.1
  have c2 := hC.2.1
  intro m
  induction m with
  | zero => intro i s _ h; omega
  | succ m ih =>
    intro i s hi hm hR hB hF hG
    have ho := oddS_le S k x i
    rw [f_X12_odds_L35, if_leq (by omega) (by omega)]
    by_cases hc : n ≤ i
    · rw [if_pos hc]
      obtain rfl : i = n := by omega
      exact ⟨s, rfl, hR, hF, hG⟩
    · obtain ⟨s1, eg, rg, fg, gg⟩ := m_drws (N := N) (n := 30) (x := x + nI i) hN hC hW (by omega) h3 hR
      have hw := wentS_le (S := S) (n := 30)
      obtain ⟨d1, d2, d3⟩ := dsN_ok (x := x + nI i) hC hW (wentS S 30) (by omega)
      have hC' := WFC_c d1.C hC
      have hlt := sees_lt hC'.1 k
      obtain ⟨s2, e4, r4, f5⟩ := m_back (N := N) (w := win S) (by omega) rg (fun j hj => by rw [fr_row fg (by decide +kernel)]; exact hB j hj)
      rw [mix_back d1] at r4
      obtain ⟨q1, q2, q3⟩ := fr208 f5
      rw [if_neg hc, eg, bd_q, m_seenBy (by omega) rg hC' d2 (by rw [d1 1 (by decide)]; exact hk), bp_q, jn_q, if_eq0 (by omega), e4]
      simp only [vl_q, bp_q, nI_addq]
      obtain ⟨s', e, r, f, g⟩ := ih (i + 1) s2 (by omega) (by omega) r4 (fun j hj => by rw [fr_row f5 (by decide +kernel), fr_row fg (by decide +kernel)]; exact hB j hj) ((hF.trans fg).trans (f5.mono (by decide))) ((hG.trans gg).trans (fun k _ => ⟨congrFun (f5 206 (by decide +kernel)).1 k, congrFun (f5 206 (by decide +kernel)).2 k⟩))
      rw [oddS] at e
      by_cases z : seesS (dsN (x + nI i) S (wentS S 30)).2 k = 0
      · rw [if_pos z]; rw [if_pos z] at e
        exact ⟨s', e, r, f, g⟩
      · rw [if_neg z]; rw [if_neg z] at e
        exact ⟨s', e, r, f, g⟩
theorem k_odds {σ τ : St} {S : Nat → Nat} {u top N : Nat} {H : Nat → Nat → Nat} (hN : 2000 ≤ N) (hK : KRel σ τ S u top H) (y z x : Int32) : ∃ r σ' τ', f_X11_odds N y z x σ = some (r, σ') ∧ f_X12_odds N y z x τ = some (r, τ') ∧ KRel σ' τ' S u top H ∧ Fr [5, 19] σ σ' := by
  have hh := hK
  obtain ⟨h1, h2, hW, h4, h5, h6, h7, h8⟩ := hh
  have c1 := h2.1
  have c2 := h2.2.1
  have hK0 := KRel_thr hK (nI 0)
  have hR0 := hK0.1
  unfold f_X11_odds f_X12_odds
  rw [c_isShip c2 h5.2.1 y, bp_q, if_bI, vl_q, m_isShip hR0 c2 y, bp_q, if_bI]
  by_cases hx : isN y (S 1) = true
  · obtain ⟨k, hk, rfl⟩ := isN_e hx (by omega)
    rw [if_pos hx, if_pos hx, m_isIn, bp_q, if_bI, rng (by decide) (by decide)]
    by_cases hy : (nI 1).toInt ≤ z.toInt ∧ z.toInt ≤ (nI 30).toInt
    · obtain ⟨n, n1, n2, rfl⟩ := inR (by decide) (by decide) hy
      rw [if_pos (decide_eq_true hy), if_pos (decide_eq_true hy)]
      obtain ⟨s', e1, f1⟩ := c_oddL (σ := σ) (N := N) (x := x) hN h2 hW h4 h5 h7 hk n2 N 0 σ (by omega) (by omega) Fr.rf
      obtain ⟨τ1, e2, r2, f3⟩ := m_tries (N := N) (by omega) hR0
      have hR1 : RS S τ1 := RS_o hR0 (fun j => by rw [fr_row f3 (by decide +kernel)])
      obtain ⟨τ2, e3, r3, f4, g4⟩ := m_oddL (τ := τ1) (N := N) (x := x) hN h2 hW h4 hk n2 N 0 τ1 (by omega) (by omega) hR1 (fun j hj => r2 j hj) Fr.rf Fm.rf
      rw [show oddS S k x 0 = 0 from rfl] at e1 e3
      rw [e1, e2, bp_q, e3]
      have hK1 := KRel_5 hK0 f1 (by decide) (by decide) (fun k hk => by simp only [List.mem_cons, List.not_mem_nil, or_false]; omega)
      refine ⟨_, s', τ2, rfl, rfl, ?_, f1⟩
      obtain ⟨g1, g2, g3, g4', g5, g6, g7, g8⟩ := hK1
      have e24 : τ2.1 206 24 = (sI τ 206 0 (nI 0)).1 206 24 := by rw [← (g4 24 (by decide)).1, fr_row f3 (j := 206) (by decide +kernel)]
      have e13 : τ2.1 213 = (sI τ 206 0 (nI 0)).1 213 := by rw [fr_row f4 (j := 213) (by decide +kernel), fr_row f3 (j := 213) (by decide +kernel)]
      exact ⟨r3, g2, g3, g4', g5, g6, g7, PRel_fr g8 Fr.rf List.not_mem_nil (fun _ _ => List.not_mem_nil) e24 e13⟩
    · rw [if_neg (fun z => hy (of_decide_eq_true z)), if_neg (fun z => hy (of_decide_eq_true z))]
      exact ⟨_, σ, _, rfl, rfl, hK0, Fr.rf⟩
  · rw [if_neg hx, if_neg hx]
    exact ⟨_, σ, _, rfl, rfl, hK0, Fr.rf⟩
