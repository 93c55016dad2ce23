/-! a state is kept, and taken back: both sides together -/
def newH (u : Nat) (H : Nat → Nat → Nat) (w : Nat → Nat) : Nat → Nat → Nat := fun i => if u = 8 then (if i < 7 then H (i + 1) else w) else (if i < u then H i else w)
theorem fr_row {R : List Nat} {σ τ : St} (h : Fr R σ τ) {j : Nat} (hj : reg j ∉ R) : τ.1 j = σ.1 j := (h j hj).1.symm
theorem m_stores {S : Nat → Nat} {τ : St} {N u : Nat} {H : Nat → Nat → Nat} (hN : 1000 ≤ N) (hu : u ≤ 8) (hR : RS S τ) (h24 : τ.1 206 24 = nI u) (hH : ∀ i, i < u → ∀ j, j < 31 → τ.1 213 (31 * i + j) = nI (H i j)) : ∃ τ', f_X12_stores N τ = some τ' ∧ τ'.1 206 24 = nI (min (u + 1) 8) ∧ (∀ i, i < min (u + 1) 8 → ∀ j, j < 31 → τ'.1 213 (31 * i + j) = nI (newH u H (win S) i j)) ∧ Fr [206, 213] τ τ' ∧ Fm [24] τ τ' := by
  have core : ∃ τ', f_X12_stores N τ = some τ' ∧ τ'.1 206 24 = nI (min (u + 1) 8) ∧ (∀ i, i < min (u + 1) 8 → ∀ j, j < 31 → τ'.1 213 (31 * i + j) = nI (newH u H (win S) i j)) := by
    unfold f_X12_stores
    rw [vl_q, h24, jn_q, if_eqq (by omega) (by decide)]
    by_cases h8 : u = 8
    · subst h8
      rw [if_pos rfl]
      have hg : ∀ j, j < 248 → τ.1 213 j = nI ((fun j => H (j / 31) (j % 31)) j) := fun j hj => by
        have := hH (j / 31) (by omega) (j % 31) (by omega)
        rw [show 31 * (j / 31) + j % 31 = j by omega] at this
        exact this
      obtain ⟨τ1, e1, r1, f1⟩ := m_stoL11 (N := N) (k19 := fun s26 => vl (sI s26 206 24 (nI 7)) fun s27 => (fun s2 => f_X12_stores_L47 N (fun s14 => vl (s14.1 206 24) fun v15 => vl (sI s14 206 24 (v15 + nI 1)) fun s16 => some s16) N (nI 0) s2) s27) (fun j => H (j / 31) (j % 31)) N 0 τ (by omega) (by omega) (fun j hj => by rw [if_neg (by omega)]; exact hg j hj)
      rw [e1]
      simp only [vl_q]
      have hR1 : RS S (sI τ1 206 24 (nI 7)) := RS_o hR (fun j => by rw [sI1, if_neg (by decide), fr_row f1 (by decide +kernel)])
      obtain ⟨τ2, e2, r2, r3, f2⟩ := m_stoL47 (N := N) (u := 7) (k6 := fun s14 => some (sI s14 206 24 (s14.1 206 24 + nI 1))) (by decide) N 0 (sI τ1 206 24 (nI 7)) (by omega) (by omega) hR1 (by rw [sI1, if_pos rfl, if_pos rfl]) (fun j hj => by omega)
      rw [e2]
      refine ⟨_, rfl, ?_, fun i hi j hj => ?_⟩
      · rw [sI1, if_pos rfl, if_pos rfl, fr_row f2 (by decide +kernel), sI1, if_pos rfl, if_pos rfl]
        rfl
      · rw [sI1, if_neg (by decide)]
        unfold newH
        rw [if_pos rfl]
        by_cases q : i < 7
        · rw [if_pos q, r3 _ (by omega), sI1, if_neg (by decide), r1 _ (by omega)]
          rw [show (31 * i + j + 31) / 31 = i + 1 by omega, show (31 * i + j + 31) % 31 = j by omega]
        · rw [if_neg q]
          obtain rfl : i = 7 := by omega
          exact r2 j hj
    · rw [if_neg h8]
      dsimp only
      obtain ⟨τ2, e2, r2, r3, f2⟩ := m_stoL47 (N := N) (u := u) (k6 := fun s14 => vl (s14.1 206 24) fun v15 => vl (sI s14 206 24 (v15 + nI 1)) fun s16 => some s16) (by omega) N 0 τ (by omega) (by omega) hR h24 (fun j hj => by omega)
      rw [e2]
      simp only [vl_q]
      refine ⟨_, rfl, ?_, fun i hi j hj => ?_⟩
      · rw [sI1, if_pos rfl, if_pos rfl, fr_row f2 (by decide +kernel), h24, nI_addq, Nat.min_eq_left (by omega)]
      · rw [sI1, if_neg (by decide)]
        unfold newH
        rw [if_neg h8]
        by_cases q : i < u
        · rw [if_pos q, r3 _ (by omega)]
          exact hH i q j hj
        · rw [if_neg q]
          obtain rfl : i = u := by omega
          exact r2 j hj
  obtain ⟨τ', e, a, b⟩ := core
  exact ⟨τ', e, a, b, fr_X12_stores (fun x hx => hx) e, fm_X12_stores (fun x hx => hx) e⟩
theorem c_keep {σ : St} {u top : Nat} (hu : u ≤ 8) (ht : top < 9) (h1 : σ.1 75 1 = nI top) (h2 : σ.1 75 2 = nI u) : f_X5_keep σ = some (sI (sI σ 75 1 (nI ((top + 1) % 9))) 75 2 (nI (min (u + 1) 8))) := by
  unfold f_X5_keep
  rw [vl_q, h1, nI_addq, rm_q (by omega) (by decide) (by decide)]
  simp only [vl_q]
  rw [sI1, if_pos rfl, if_neg (by decide), h2, nI_addq]
  have : mn (nI (u + 1)) (nI 8) = nI (min (u + 1) 8) := by
    unfold mn
    rw [if_ltq (by decide) (by omega)]
    split
    · rw [Nat.min_eq_right (by omega)]
    · rw [Nat.min_eq_left (by omega)]
  rw [this]
/-- the kept states stay where nothing of theirs is written -/
theorem PRel_fr {σ σ' τ τ' : St} {S : Nat → Nat} {u top : Nat} {H : Nat → Nat → Nat} {R : List Nat} (h : PRel σ τ S u top H) (hF : Fr R σ σ') (h9 : 9 ∉ R) (hp : ∀ i, i < u → 10 + pos top u i ∉ R) (e24 : τ'.1 206 24 = τ.1 206 24) (e213 : τ'.1 213 = τ.1 213) : PRel σ' τ' S u top H := by
  obtain ⟨g1, g2, g3, g4, g5, g6⟩ := h
  have e75 : σ'.1 75 = σ.1 75 := fr_row hF (by rw [show reg 75 = 9 from by decide +kernel]; exact h9)
  refine ⟨g1, g2, by rw [e75]; exact g3, by rw [e75]; exact g4, by rw [e24]; exact g5, fun i hi => ?_⟩
  obtain ⟨q1, q2, q3, q4⟩ := g6 i hi
  have hl : pos top u i < 9 := Nat.mod_lt _ (by decide)
  have := shP _ hl
  exact ⟨SRel_fr this.1 hF (by rw [this.2]; exact hp i hi) q1, q2, q3, fun j hj => by rw [e213]; exact q4 j hj⟩
theorem pos_top {top u i : Nat} (hu : u ≤ 8) (ht : top < 9) (hi : i < u) : pos top u i ≠ top := by unfold pos; omega
/-- another state over the same chart -/
theorem PRel_S {σ τ : St} {S S' : Nat → Nat} {u top : Nat} {H : Nat → Nat → Nat} (h : PRel σ τ S u top H) (e : ∀ j, j < 147 ∨ 178 ≤ j → S j = S' j) : PRel σ τ S' u top H := by
  obtain ⟨g1, g2, g3, g4, g5, g6⟩ := h
  refine ⟨g1, g2, g3, g4, g5, fun i hi => ?_⟩
  rw [← mix_cong (w := H i) e]
  exact g6 i hi
/-- after a mark, an act and its keeping -/
theorem PRel_keep {σ σ1 τ τ1 : St} {S : Nat → Nat} {u top : Nat} {H : Nat → Nat → Nat} (h : PRel σ τ S u top H) (hW : WFW S) (h3 : S 147 ≤ 3600) (hF : Fr [10 + top, 4] σ σ1) (hS : SRel σ1 (rr 76 top) S) (e24 : τ1.1 206 24 = nI (min (u + 1) 8)) (e213 : ∀ i, i < min (u + 1) 8 → ∀ j, j < 31 → τ1.1 213 (31 * i + j) = nI (newH u H (win S) i j)) : PRel (sI (sI σ1 75 1 (nI ((top + 1) % 9))) 75 2 (nI (min (u + 1) 8))) τ1 S (min (u + 1) 8) ((top + 1) % 9) (newH u H (win S)) := by
  obtain ⟨g1, g2, g3, g4, g5, g6⟩ := h
  refine ⟨Nat.min_le_right .., Nat.mod_lt _ (by decide), by rw [sI1, if_pos rfl, if_neg (by decide), sI1, if_pos rfl, if_pos rfl], by rw [sI1, if_pos rfl, if_pos rfl], e24, fun i hi => ?_⟩
  have hFp : Fr [9] σ1 (sI (sI σ1 75 1 (nI ((top + 1) % 9))) 75 2 (nI (min (u + 1) 8))) := (Fr.rf.sI (by decide +kernel)).sI (by decide +kernel)
  have old : ∀ k, k < u → SRel (sI (sI σ1 75 1 (nI ((top + 1) % 9))) 75 2 (nI (min (u + 1) 8))) (rr 76 (pos top u k)) (mix S (H k)) := fun k hk => by
    have hl : pos top u k < 9 := Nat.mod_lt _ (by decide)
    have hs := shP _ hl
    have hpt := pos_top g1 g2 hk
    refine SRel_fr hs.1 hFp (by rw [hs.2]; intro z; have := List.mem_singleton.mp z; omega) (SRel_fr hs.1 hF (by rw [hs.2]; intro z; simp only [List.mem_cons, List.not_mem_nil, or_false] at z; omega) (g6 k hk).1)
  have cur : SRel (sI (sI σ1 75 1 (nI ((top + 1) % 9))) 75 2 (nI (min (u + 1) 8))) (rr 76 top) (mix S (win S)) := by
    rw [mix_win]
    have hs := shP top g2
    exact SRel_fr hs.1 hFp (by rw [hs.2]; intro z; have := List.mem_singleton.mp z; omega) hS
  have hq := fun j hj => e213 i hi j hj
  unfold newH at hq ⊢
  by_cases h8 : u = 8
  · subst h8
    simp only [if_true] at hq ⊢
    by_cases q : i < 7
    · simp only [if_pos q] at hq ⊢
      rw [show pos ((top + 1) % 9) (min (8 + 1) 8) i = pos top 8 (i + 1) by unfold pos; omega]
      exact ⟨old (i + 1) (by omega), (g6 (i + 1) (by omega)).2.1, (g6 (i + 1) (by omega)).2.2.1, hq⟩
    · simp only [if_neg q] at hq ⊢
      rw [show pos ((top + 1) % 9) (min (8 + 1) 8) i = top by unfold pos; omega]
      exact ⟨cur, by rw [mix_win]; exact hW, by rw [mix_win]; exact h3, hq⟩
  · simp only [if_neg h8] at hq ⊢
    by_cases q : i < u
    · simp only [if_pos q] at hq ⊢
      rw [show pos ((top + 1) % 9) (min (u + 1) 8) i = pos top u i by unfold pos; omega]
      exact ⟨old i q, (g6 i q).2.1, (g6 i q).2.2.1, hq⟩
    · simp only [if_neg q] at hq ⊢
      rw [show pos ((top + 1) % 9) (min (u + 1) 8) i = top by unfold pos; omega]
      exact ⟨cur, by rw [mix_win]; exact hW, by rw [mix_win]; exact h3, hq⟩
