/-! the lines of a chart, to its end: both sides -/
section ChartL
variable {σ τ : St} {N n L k a b c d v g : Nat} {h B : Nat → Nat}
theorem rl_none (H : PR σ τ n L B k a b c d v) (hk : k ≠ 1) : f_X1_readLine N 26 σ = (bd (f_X9_refuse (nI 1) σ) fun v s => rz v (some (v, s))) ∧ f_X12_readLine N τ = bd (f_X12_bad (nI 1) τ) fun v s => rz v (some (v, s)) := by
  have e : ∀ i, decide (k = 1 ∧ c = rvC i) = false := fun i => decide_eq_false (fun w => hk w.1)
  have nf : ¬ (false = true) := by decide
  unfold f_X1_readLine f_X12_readLine
  rw [c_is (i := 0) (by decide) H, m_is (i := 0) (x := 465624852596) (by decide) (by decide) H, c_is (i := 1) (by decide) H, m_is (i := 1) (x := 439904990056) (by decide) (by decide) H, c_is (i := 2) (by decide) H, m_is (i := 2) (x := 1718775661) (by decide) (by decide) H, c_is (i := 3) (by decide) H, m_is (i := 3) (x := 1684107883) (by decide) (by decide) H, c_is (i := 4) (by decide) H, m_is (i := 4) (x := 1936222576) (by decide) (by decide) H, c_is (i := 5) (by decide) H, m_is (i := 5) (x := 1751218789) (by decide) (by decide) H, e 0, e 1, e 2, e 3, e 4, e 5]
  exact ⟨rfl, rfl⟩
theorem DR_5 (D : DR σ τ h g) (x y : Int32) : DR (sI σ 26 5 x) (sI τ 206 19 y) h g := by
  obtain ⟨⟨a1, a2, a3⟩, a4, ⟨b1, b2, b3⟩, ⟨c1, c2, c3⟩, c4, c5, c6, ⟨n1, n2⟩, z, z1, z2⟩ := D
  refine ⟨⟨fun j hj => by rw [sI_ne (by decide)]; exact a1 j hj, a2, DBl_w a3 (fun b h1 h2 => sI_ne (by omega))⟩, a4, ⟨by rw [sI1, if_pos rfl, if_neg (by decide)]; exact b1, by rw [sI1, if_pos rfl, if_neg (by decide)]; exact b2, by rw [sI1, if_pos rfl, if_neg (by decide)]; exact b3⟩, ⟨by rw [sI1, if_pos rfl, if_neg (by decide)]; exact c1, c2, c3⟩, fun l hl => ?_, c5, fun k hk => ?_, ⟨n1, n2⟩, z, by rw [sI1, if_pos rfl, if_neg (by decide)]; exact z1, by rw [sI1, if_pos rfl, if_neg (by decide)]; exact z2⟩
  · obtain ⟨x1, x2, x3⟩ := c4 l hl
    have e26 : (sI σ 26 5 x).1 (29 + 2 * l) = σ.1 (29 + 2 * l) := sI_ne (by omega)
    have e27 : (sI σ 26 5 x).1 (30 + 2 * l) = σ.1 (30 + 2 * l) := sI_ne (by omega)
    exact ⟨x1, LRel_w (by have := a4.1; omega) e26 e27 x2, by rw [e26]; exact x3⟩
  · obtain ⟨x1, x2⟩ := c6 k hk
    have e : (sI σ 26 5 x).1 (45 + k) = σ.1 (45 + k) := sI_ne (by omega)
    exact ⟨x1, by unfold HRel at *; rw [e]; exact x2⟩
/-- cells that a chart's lines leave -/
def MO (τ τ' : St) : Prop := Fr [206, 209, 211] τ τ' ∧ Fm [4, 11, 12, 13, 14, 15, 16, 17, 18, 19, 20, 21] τ τ'
theorem MO.trans {τ τ' τ2 : St} (h : MO τ τ') (g : MO τ' τ2) : MO τ τ2 := ⟨h.1.trans g.1, h.2.trans g.2⟩
theorem MO.rf {τ : St} : MO τ τ := ⟨fun _ _ => ⟨rfl, rfl⟩, Fm.rf⟩
theorem MO_rl {τ τ' : St} {N : Nat} {r : Int32} (e : f_X12_readLine N τ = some (r, τ')) : MO τ τ' := ⟨fr_X12_readLine (by decide) e, fm_X12_readLine (by decide) e⟩
theorem MO_sg {τ τ' : St} {N : Nat} {r x : Int32} (e : f_X12_sign N x τ = some (r, τ')) : MO τ τ' := ⟨fr_X12_sign (by decide) e, fm_X12_sign (by decide) e⟩
theorem p_chartL {k10 k12 : St → Option (Int32 × St)} (hN : 1000 ≤ N) : ∀ (F x : Nat) (σ τ : St) (k a b c d v g : Nat) (h : Nat → Nat), PR σ τ n L B k a b c d v → DR σ τ h g → σ.1 26 5 = nI x → τ.1 206 19 = nI x → (k = 1 ∨ k = 2 ∨ k = 3 → 2 * x < b) → x ≤ 470 → 470 - x < F → (∃ σ' τ' w a, f_X1_read_L33 N 26 (fun s21 => bd (f_X9_atEnd s21) fun v22 s23 => rz v22 (some (v22, s23))) F σ = some (nI 0, σ') ∧ f_X12_chart_L40 N k10 k12 F τ = k12 τ' ∧ FltP σ' τ' w a ∧ N12 τ τ' ∧ MO τ τ' ∧ DBl σ') ∨ ∃ σ' τ' h' g' x', f_X1_read_L33 N 26 (fun s21 => bd (f_X9_atEnd s21) fun v22 s23 => rz v22 (some (v22, s23))) F σ = some (nI 1, σ') ∧ f_X12_chart_L40 N k10 k12 F τ = k10 τ' ∧ DR σ' τ' h' g' ∧ N12 τ τ' ∧ MO τ τ' ∧ σ'.1 26 5 = nI x' ∧ τ'.1 206 19 = nI x' ∧ x' ≤ 470 ∧ σ'.1 1 6 = nI 0 ∧ τ'.1 206 15 = nI 0 := by
  intro F
  induction F with
  | zero => intro x σ τ k a b c d v g h _ _ _ _ _ _ hf; omega
  | succ F ih =>
    intro x σ τ k a b c d v g h H D hx hm hb hx4 hf
    obtain ⟨⟨_, ⟨_, _, _, c11⟩, _⟩, ⟨kk, _, c2, _, _, _, m11⟩, _, _, hbn⟩ := id H
    rw [f_X1_read_L33, f_X12_chart_L40]
    rw [vl_q, hx, if_leq (by decide) (by omega), if_neg (by omega), vl_q, c2, if_eq0 (by omega), vl_q, m11]
    by_cases k0 : k = 0
    · rw [if_pos k0]
      unfold f_X9_atEnd
      rw [vl_q, c2, jn_q, if_eq0 (by omega), if_pos k0, vl_q, c11, if_bI]
      by_cases q : L < n
      · have e4 : (if k = 0 ∧ L < n then 4 else k) = 4 := if_pos ⟨k0, q⟩
        rw [if_pos (decide_eq_true q), e4, if_eq0 (by decide), if_neg (by decide)]
        obtain ⟨σ', τ', e1, e2, f, g1, g2⟩ := p_bad (w := 1) H (by decide)
        have rl := (rl_none (N := N) H (by omega)).2
        rw [e2, bd_q, rz_0] at rl
        refine Or.inl ⟨σ', τ', _, _, ?_, ?_, f, fun j _ => by rw [(g2.1 211 (by decide)).2], MO_rl rl, DBl_K D.1.2.2 g1⟩
        · rw [e1, bd_q, if_pos (by decide), bd_q, rz_0]
        · rw [rl, bd_q, if_pos (by decide)]
      · have e4 : (if k = 0 ∧ L < n then 4 else k) = 0 := (if_neg (fun w => q w.2)).trans k0
        rw [if_neg (by rw [decide_eq_false q]; decide), e4, if_eq0 (by decide), if_pos rfl]
        refine Or.inr ⟨σ, τ, h, g, x, ?_, rfl, D, fun _ _ => rfl, MO.rf, hx, hm, hx4, H.1.2.2.2.2.2⟩
        rw [bd_q, rz_1]
    have e4 : (if k = 0 ∧ L < n then 4 else k) = k := if_neg (fun w => k0 w.1)
    rw [if_neg k0, e4, if_eq0 (by omega), if_neg k0]
    by_cases k1 : k = 1
    · rcases p_readLine hN H D with ⟨σ', τ', w, a, e1, e2, f, n12, hB⟩ | ⟨σ1, τ1, h1, g1', e1, e2, D1, ⟨k1', a1, b1, c1, d1, v1, P1, l1⟩, n12, x5, x19⟩
      · rw [e1, bd_q, if_pos (by decide), e2, bd_q, if_pos (by decide)]
        exact Or.inl ⟨σ', τ', w, a, rfl, rfl, f, n12, MO_rl e2, hB⟩
      · have F1 : MO τ τ1 := MO_rl e2
        rw [e1, bd_q, if_one, e2, bd_q, if_one]
        rcases p_sign (sg := 59) hN (by decide) P1 with ⟨σ', τ', w, a, e3, e4, f, g1, g2⟩ | ⟨kk1, _, σ2, τ2, e3, e4, g1, g2, ⟨k2, a2, b2, c2', d2, v2, P2, l2⟩⟩
        · have F2 : MO τ1 τ' := MO_sg e4
          rw [e3, bd_q, if_pos (by decide), e4, bd_q, if_pos (by decide)]
          exact Or.inl ⟨σ', τ', w, a, rfl, rfl, f, fun j hj => by rw [(g2.1 211 (by decide)).2]; exact n12 j hj, F1.trans F2, DBl_K D1.1.2.2 g1⟩
        · have F2 : MO τ1 τ2 := MO_sg e4
          have y5 : σ2.1 26 5 = nI x := by rw [(g1.1 26 (by decide)).1, x5]; exact hx
          have y19 : τ2.1 206 19 = nI x := by rw [(g2.2 19 (by decide)).1, x19]; exact hm
          have bb := hb (Or.inl k1)
          have bl := l1 (Or.inr (Or.inr kk1))
          have bn1 : b1 ≤ n := (P1.2.2.2.2 (Or.inr (Or.inr kk1))).1
          have n9 : n ≤ 940 := P1.1.1.1
          rw [e3, bd_q, if_one, e4, bd_q, if_one, vl_q, y5, vl_q, nI_addq, vl_q, y19, vl_q, nI_addq]
          have D2 := DR_5 (DR_K D1 g1 g2 (by decide) (by decide)) (nI (x + 1)) (nI (x + 1))
          have P3 : PR (sI σ2 26 5 (nI (x + 1))) (sI τ2 206 19 (nI (x + 1))) n L B k2 a2 b2 c2' d2 v2 := PR_K (PR_c (τ' := τ2) P2 (σ' := sI σ2 26 5 (nI (x + 1))) (sI_ne (by decide)) (sI_ne (by decide)) rfl rfl rfl rfl) (FK.rf (ks := [])) (fun x hx => absurd hx List.not_mem_nil) (FK.rf.sI (ks := [19]) (by decide)) (by decide)
          have F3 : MO τ2 (sI τ2 206 19 (nI (x + 1))) := ⟨fun j hj => ⟨(sI_ne (fun e => hj (by rw [e]; decide))).symm, rfl⟩, Fm.rf.sI (by decide)⟩
          have n12' : N12 τ (sI τ2 206 19 (nI (x + 1))) := fun j hj => by
            show τ2.2 211 j = _
            rw [(g2.1 211 (by decide)).2]; exact n12 j hj
          rcases ih (x + 1) _ _ k2 a2 b2 c2' d2 v2 g1' h1 P3 D2 (by rw [sI1, if_pos rfl, if_pos rfl]) (by rw [sI1, if_pos rfl, if_pos rfl]) (fun w => by have := l2 w; omega) (by omega) (by omega) with ⟨σ', τ', w, a, e5, e6, f, m12, F4, hB⟩ | ⟨σ', τ', h', g', x', e5, e6, D', m12, F4, r5, r19, rx⟩
          · exact Or.inl ⟨σ', τ', w, a, e5, e6, f, fun j hj => (m12 j hj).trans (n12' j hj), ((F1.trans F2).trans F3).trans F4, hB⟩
          · exact Or.inr ⟨σ', τ', h', g', x', e5, e6, D', fun j hj => (m12 j hj).trans (n12' j hj), ((F1.trans F2).trans F3).trans F4, r5, r19, rx⟩
    · obtain ⟨σ', τ', e1, e2, f, g1, g2⟩ := p_bad (w := 1) H (by decide)
      obtain ⟨rc, rl⟩ := rl_none (N := N) H k1
      rw [e1, bd_q, rz_0] at rc
      rw [e2, bd_q, rz_0] at rl
      rw [rc, bd_q, if_pos (by decide), rl, bd_q, if_pos (by decide)]
      exact Or.inl ⟨σ', τ', _, _, rfl, rfl, f, fun j _ => by rw [(g2.1 211 (by decide)).2], MO_rl rl, DBl_K D.1.2.2 g1⟩
end ChartL
