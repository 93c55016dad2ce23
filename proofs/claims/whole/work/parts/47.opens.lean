/-! a text is opened, and a chart read: both sides -/
theorem bp_id (x : Option St) : (bp x fun s => some s) = x := by cases x <;> rfl
section Opens
variable {σ τ : St} {N n L : Nat} {B : Nat → Nat}
theorem p_open (hN : 1000 ≤ N) (hL : L ≤ 940) (hn : n ≤ 940) (hC : TC σ n B) (hB : ∀ j, j < n → B j < 256) (t3 : τ.1 206 3 = nI n) (t7 : ∀ j, j < n → τ.1 207 j = sbt (B j)) (t5 : τ.1 206 5 = nI L) (t4 : τ.1 206 4 = nI 0) (t15 : τ.1 206 15 = nI 0) : ∃ σ' τ' k a b c d v, f_X9_open N (nI L) σ = some σ' ∧ f_X12_next N τ = some τ' ∧ FK 1 [2, 3, 4, 6, 7, 8, 9, 10, 11] σ σ' ∧ FK 206 [4, 11, 12, 13, 14, 17] τ τ' ∧ PR σ' τ' n L B k a b c d v ∧ (k = 1 ∨ k = 2 ∨ k = 3 → 0 < b) := by
  have c0 : (sI σ 1 10 (nI (min n L))).1 1 1 = nI n := by rw [sI1, if_pos rfl, if_neg (by decide)]; exact hC.1
  have ev : f_X9_open N (nI L) σ = f_X9_next N (sI (sI (sI (sI (sI σ 1 10 (nI (min n L))) 1 11 (bI (decide (L < n)))) 1 9 (nI 0)) 1 6 (nI 0)) 1 7 (nI 0)) := by
    unfold f_X9_open
    simp only [vl_q]
    rw [hC.1, mn_q (by omega) (by omega), c0, jn_q, if_leq (by omega) (by omega)]
    by_cases q : L < n
    · rw [if_neg (by omega), decide_eq_true q]
      refine (rz_1 _).trans ?_
      exact bp_id _
    · rw [if_pos (by omega), decide_eq_false q]
      refine (rz_0 _).trans ?_
      exact bp_id _
  have F1 : FK 1 [2, 3, 4, 6, 7, 8, 9, 10, 11] σ (sI (sI (sI (sI (sI σ 1 10 (nI (min n L))) 1 11 (bI (decide (L < n)))) 1 9 (nI 0)) 1 6 (nI 0)) 1 7 (nI 0)) := ((((FK.rf.sI (by decide)).sI (by decide)).sI (by decide)).sI (by decide)).sI (by decide)
  have X : TxR (sI (sI (sI (sI (sI σ 1 10 (nI (min n L))) 1 11 (bI (decide (L < n)))) 1 9 (nI 0)) 1 6 (nI 0)) 1 7 (nI 0)) τ n L B := by
    refine ⟨⟨hn, hL, hB⟩, ⟨by rw [(F1.2 1 (by decide)).1]; exact hC.1, fun j hj => by rw [(F1.1 2 (by decide)).1]; exact hC.2 j hj, ?_, ?_⟩, t3, t7, t5, ?_, t15⟩
    · rw [sI1, if_pos rfl, if_neg (by decide), sI1, if_pos rfl, if_neg (by decide), sI1, if_pos rfl, if_neg (by decide), sI1, if_pos rfl, if_neg (by decide), sI1, if_pos rfl, if_pos rfl]
    · rw [sI1, if_pos rfl, if_neg (by decide), sI1, if_pos rfl, if_neg (by decide), sI1, if_pos rfl, if_neg (by decide), sI1, if_pos rfl, if_pos rfl]
    · rw [sI1, if_pos rfl, if_neg (by decide), sI1, if_pos rfl, if_pos rfl]
  have c9 : (sI (sI (sI (sI (sI σ 1 10 (nI (min n L))) 1 11 (bI (decide (L < n)))) 1 9 (nI 0)) 1 6 (nI 0)) 1 7 (nI 0)).1 1 9 = nI 0 := by
    rw [sI1, if_pos rfl, if_neg (by decide), sI1, if_pos rfl, if_neg (by decide), sI1, if_pos rfl, if_pos rfl]
  obtain ⟨σ', τ', k, a, b, c, d, v, e1, e2, f1, f2, tk, tb⟩ := nx hN X (Nat.zero_le _) c9 t4
  exact ⟨σ', τ', k, a, b, c, d, v, ev.trans e1, e2, F1.trans (f1.mono (by decide)), f2, ⟨TxR_K X f1 (by decide) f2 (by decide), tk⟩, tb⟩
theorem m_clrL {k3 : St → Option St} : ∀ m i (s : St), i ≤ 147 → 147 - i < m → (∀ j, j < i → s.1 209 j = nI 0) → ∃ s', f_X12_clears_L2 N k3 m (nI i) s = k3 s' ∧ (∀ j, j < 147 → s'.1 209 j = nI 0) ∧ (∀ b, b ≠ 209 → s'.1 b = s.1 b) ∧ s'.2 = s.2 := by
  intro m
  induction m with
  | zero => intro i s _ h; omega
  | succ m ih =>
    intro i s hi hm hz
    rw [f_X12_clears_L2, if_leq (by decide) (by omega)]
    by_cases q : 147 ≤ i
    · rw [if_pos q]
      exact ⟨s, rfl, fun j hj => hz j (by omega), fun _ _ => rfl, rfl⟩
    · rw [if_neg q, ald_q (by omega) (by decide), vl_q, nI_addq]
      obtain ⟨s', e, g1, g2, g3⟩ := ih (i + 1) (sI s 209 i (nI 0)) (by omega) (by omega) (fun j hj => by
        rw [sI1, if_pos rfl]
        by_cases y : j = i
        · rw [if_pos y]
        · rw [if_neg y]; exact hz j (by omega))
      exact ⟨s', e, g1, fun b hb => (g2 b hb).trans (sI_ne hb), g3⟩
theorem m_clears (hN : 1000 ≤ N) (s : St) : ∃ s', f_X12_clears N s = some s' ∧ (∀ j, j < 147 → s'.1 209 j = nI (if j = 2 then 30 else 0)) ∧ (∀ b, b ≠ 209 → s'.1 b = s.1 b) ∧ s'.2 = s.2 := by
  obtain ⟨s', e, g1, g2, g3⟩ := m_clrL (N := N) (k3 := fun (s9 : St) => ald (fun j => sI s9 209 j (nI 30)) 147 (nI 2) fun s10 => some s10) N 0 s (by decide) (by omega) (fun j hj => absurd hj (Nat.not_lt_zero _))
  unfold f_X12_clears
  rw [e, ald_q (by decide) (by decide)]
  refine ⟨_, rfl, fun j hj => ?_, fun b hb => (sI_ne hb).trans (g2 b hb), g3⟩
  rw [sI1, if_pos rfl]
  by_cases y : j = 2
  · rw [if_pos y, if_pos y]
  · rw [if_neg y, if_neg y]; exact g1 j hj
end Opens
def chK (N : Nat) : St → Option (Int32 × St) := fun (s23 : St) =>
    f_X12_chart_L85 N (fun (s35 : St) =>
      f_X12_chart_L123 N (fun (s45 : St) =>
        ald (s45.1 208) 359 (nI 2) fun v46 =>
        ald (fun j => sI s45 208 j v46) 359 (nI 149) fun s47 =>
        f_X12_chart_L166 N (fun (s59 : St) =>
          f_X12_chart_L218 N (fun (s73 : St) =>
            vl (sI s73 206 24 (nI 0)) fun s74 =>
            vl (s74.1 206 19) fun v75 =>
            some (v75, s74)) N (nI 0) s59) N (nI 0) s47) N (nI 0) s35) N (nI 0) s23
theorem p_readChart {σ τ : St} {N n : Nat} {B : Nat → Nat} (hN : 1000 ≤ N) (hT : TapR σ τ n B) (hR : RvR τ) (hB : DBl σ) : (∃ σ' τ' w a, f_X1_read N 26 σ = some (nI 0, σ') ∧ f_X12_chart N τ = some (-1 - nI a, τ') ∧ FltP σ' τ' w a ∧ N12 τ τ' ∧ Fr [206, 209, 211] τ τ' ∧ τ'.1 206 2 = nI 0 ∧ DBl σ') ∨ ∃ σ' τ' h' g' x', f_X1_read N 26 σ = some (nI 1, σ') ∧ f_X12_chart N τ = chK N τ' ∧ DR σ' τ' h' g' ∧ N12 τ τ' ∧ Fr [206, 209, 211] τ τ' ∧ σ'.1 26 5 = nI x' ∧ τ'.1 206 19 = nI x' ∧ x' ≤ 470 ∧ σ'.1 1 6 = nI 0 ∧ τ'.1 206 15 = nI 0 ∧ τ'.1 206 2 = nI 0 := by
  obtain ⟨hn, hC, hM, hBb⟩ := hT
  unfold f_X1_read f_X12_chart
  rw [vl_q, vl_q, vl_q, vl_q, vl_q, m_taken, bp_q, vl_q, vl_q, vl_q, vl_q]
  have c4 : ∀ b, b ≠ 26 → (sI (sI (sI (sI σ 26 2 (nI 0)) 26 3 (nI 0)) 26 4 (nI 30)) 26 6 (nI 0)).1 b = σ.1 b := fun b hb => by rw [sI_ne hb, sI_ne hb, sI_ne hb, sI_ne hb]
  have d4 : ∀ j, (sI (sI (sI (sI σ 26 2 (nI 0)) 26 3 (nI 0)) 26 4 (nI 30)) 26 6 (nI 0)).1 26 j = if j = 6 then nI 0 else if j = 4 then nI 30 else if j = 3 then nI 0 else if j = 2 then nI 0 else σ.1 26 j := fun j => by
    rw [sI1, if_pos rfl, sI1, if_pos rfl, sI1, if_pos rfl, sI1, if_pos rfl]
  generalize hs4 : (sI (sI (sI (sI σ 26 2 (nI 0)) 26 3 (nI 0)) 26 4 (nI 30)) 26 6 (nI 0)) = σ4 at *
  have l4 : σ4.2 = σ.2 := by rw [← hs4]; rfl
  have m4 : ∀ b, b ≠ 206 → (sI (sI (sI (sI (tkS (nI 900) τ) 206 15 (nI 0)) 206 19 (nI 0)) 206 20 (nI 0)) 206 21 (nI 0)).1 b = τ.1 b := fun b hb => by rw [sI_ne hb, sI_ne hb, sI_ne hb, sI_ne hb, tk_c hb]
  have k4 : ∀ j, (sI (sI (sI (sI (tkS (nI 900) τ) 206 15 (nI 0)) 206 19 (nI 0)) 206 20 (nI 0)) 206 21 (nI 0)).1 206 j = if j = 21 then nI 0 else if j = 20 then nI 0 else if j = 19 then nI 0 else if j = 15 then nI 0 else (tkS (nI 900) τ).1 206 j := fun j => by
    rw [sI1, if_pos rfl, sI1, if_pos rfl, sI1, if_pos rfl, sI1, if_pos rfl]
  have q4 : (sI (sI (sI (sI (tkS (nI 900) τ) 206 15 (nI 0)) 206 19 (nI 0)) 206 20 (nI 0)) 206 21 (nI 0)).2 = τ.2 := rfl
  generalize hm4 : (sI (sI (sI (sI (tkS (nI 900) τ) 206 15 (nI 0)) 206 19 (nI 0)) 206 20 (nI 0)) 206 21 (nI 0)) = τ4 at *
  obtain ⟨τ5, g5, z5, o5, p5⟩ := m_clears hN τ4
  have r5 : τ5.1 206 = τ4.1 206 := o5 206 (by decide)
  rw [g5, bp_q]
  have C4 : TC σ4 n B := ⟨by rw [c4 1 (by decide)]; exact hC.1, fun j hj => by rw [c4 2 (by decide)]; exact hC.2 j hj⟩
  obtain ⟨σ1, τ1, k, a, b, c, d, v, e1, e2, f1, f2, P, hb⟩ := p_open (τ := τ5) (L := 900) hN (by decide) hn C4 hBb (by rw [r5, k4, if_neg (by decide), if_neg (by decide), if_neg (by decide), if_neg (by decide), tk_3]; exact hM.1) (fun j hj => by rw [o5 207 (by decide), m4 207 (by decide)]; exact hM.2 j hj) (by rw [r5, k4, if_neg (by decide), if_neg (by decide), if_neg (by decide), if_neg (by decide), tk_5]) (by rw [r5, k4, if_neg (by decide), if_neg (by decide), if_neg (by decide), if_neg (by decide), tk_4]) (by rw [r5, k4, if_neg (by decide), if_neg (by decide), if_neg (by decide), if_pos rfl])
  rw [e1, bp_q, vl_q, e2, bp_q]
  have n1 : ∀ b, b ≠ 26 → b ≠ 1 → (sI σ1 26 5 (nI 0)).1 b = σ.1 b := fun b h1 h2 => by rw [sI_ne h1, (f1.1 b h2).1, c4 b h1]
  have o26 : ∀ j, j ≠ 5 → (sI σ1 26 5 (nI 0)).1 26 j = σ4.1 26 j := fun j hj => by rw [sI1, if_pos rfl, if_neg hj, (f1.1 26 (by decide)).1]
  have D : DR (sI σ1 26 5 (nI 0)) τ1 (fun j => if j = 2 then 30 else 0) 0 := by
    refine ⟨⟨fun j hj => by rw [(f2.1 209 (by decide)).1]; exact z5 j hj, fun i hi => by rw [(f2.1 212 (by decide)).2, p5, q4]; exact hR i hi, DBl_w hB (fun b h1 h2 => n1 b (by omega) (by omega))⟩, by decide, ⟨?_, ?_, ?_⟩, ⟨?_, by decide, by decide⟩, fun l hl => absurd hl (Nat.not_lt_zero _), fun l _ _ => ⟨if_neg (by omega), if_neg (by omega), if_neg (by omega)⟩, fun l hl => absurd hl (Nat.not_lt_zero _), ⟨fun l hl => absurd hl (Nat.not_lt_zero _), fun l hl => absurd hl (Nat.not_lt_zero _)⟩, false, ?_, ?_⟩
    · rw [o26 2 (by decide), d4]; rfl
    · rw [o26 3 (by decide), d4]; rfl
    · rw [o26 4 (by decide), d4]; rfl
    · rw [(f2.2 20 (by decide)).1, r5, k4]; rfl
    · rw [o26 6 (by decide), d4]; rfl
    · rw [(f2.2 21 (by decide)).1, r5, k4]; rfl
  have M1 : Fr [206, 209, 211] τ τ1 := fun j hj => by
    have j1 : j ≠ 206 := fun e => hj (by rw [e]; decide)
    have j2 : j ≠ 209 := fun e => hj (by rw [e]; decide)
    exact ⟨by rw [(f2.1 j j1).1, o5 j j2, m4 j j1], by rw [(f2.1 j j1).2, p5, q4]⟩
  have N1 : N12 τ τ1 := fun j _ => by rw [(f2.1 211 (by decide)).2, p5, q4]
  have t2 : τ1.1 206 2 = nI 0 := by rw [(f2.2 2 (by decide)).1, r5, k4, if_neg (by decide), if_neg (by decide), if_neg (by decide), if_neg (by decide), tk_2]
  have t19 : τ1.1 206 19 = nI 0 := by rw [(f2.2 19 (by decide)).1, r5, k4]; rfl
  have P' : PR (sI σ1 26 5 (nI 0)) τ1 n 900 B k a b c d v := PR_c P (sI_ne (by decide)) (sI_ne (by decide)) rfl rfl rfl rfl
  rcases p_chartL (k10 := chK N) (k12 := fun (s76 : St) => vl (s76.1 206 16) fun v77 => some (((-1) - v77), s76)) hN N 0 (sI σ1 26 5 (nI 0)) τ1 k a b c d v 0 _ P' D (by rw [sI1, if_pos rfl, if_pos rfl]) t19 (fun w => by have := hb w; omega) (by decide) (by omega) with ⟨σ', τ', w, a', e3, e4, f, m12, F4, hBd⟩ | ⟨σ', τ', h', g', x', e3, e4, D', m12, F4, y5, y19, yx, y6, y15⟩
  · refine Or.inl ⟨σ', τ', w, a', e3, e4.trans ?_, f, fun j hj => (m12 j hj).trans (N1 j hj), M1.trans F4.1, by rw [← (F4.2 2 (by decide)).1]; exact t2, hBd⟩
    rw [vl_q, f.2.2.2.1]
  · exact Or.inr ⟨σ', τ', h', g', x', e3, e4, D', fun j hj => (m12 j hj).trans (N1 j hj), M1.trans F4.1, y5, y19, yx, y6, y15, by rw [← (F4.2 2 (by decide)).1]; exact t2⟩
