/-! now, confused: both sides -/
theorem m_nowL {S : Nat → Nat} {τ : St} {N : Nat} {x : Int32} {k6 : Int32 → Option (Int32 × St)} (hR : RS S τ) (hn : S 0 ≤ 8) (hW : WFW S) : ∀ n l, l ≤ S 0 → S 0 - l < n → f_X12_now_L9 N x τ k6 n (nI (bset (fun l => decide (S (150 + l) = 0)) l)) (nI l) = k6 (nI (bset (fun l => decide (S (150 + l) = 0)) (S 0))) := by
  intro n
  induction n with
  | zero => intro l _ h; omega
  | succ n ih =>
    intro l hl hn'
    have hb2 := bset_lt (fun l => decide (S (150 + l) = 0)) l
    rw [f_X12_now_L9]
    rw [ald_S hR (by decide), if_leq (by omega) (by omega)]
    by_cases hc : S 0 ≤ l
    · rw [if_pos hc]
      obtain rfl : l = S 0 := by omega
      rfl
    · have h9 := (hW.2.2.2.1 l (by omega)).1
      rw [if_neg hc, nI_addq, ald_S hR (by omega)]
      simp only [jn_q, vl_q]
      rw [if_eq0 (by omega)]
      have := ih (l + 1) (by omega) (by omega)
      by_cases hpl : S (150 + l) = 0
      · rw [if_pos hpl, or_bit hb2 (by omega), nI_addq]
        simpa only [bset, if_pos (decide_eq_true hpl)] using this
      · rw [if_neg hpl, or_0, nI_addq]
        simpa only [bset, if_neg (fun z => hpl (of_decide_eq_true z)), Nat.add_zero] using this
theorem k_now {σ τ : St} {S : Nat → Nat} {u top N : Nat} {H : Nat → Nat → Nat} (hN : 1000 ≤ N) (hK : KRel σ τ S u top H) (x : Int32) : rdE τ (f_X11_now N x σ) (f_X12_now N x τ) := by
  have hh := hK
  obtain ⟨h1, h2, hW, h4, h5, h6, h7, h8⟩ := hh
  have c1 := h2.1
  have hR0 := (KRel_thr hK (nI 0)).1
  unfold f_X11_now f_X12_now
  rw [vl_q]
  have e := m_nowL (N := N) (x := x) (k6 := fun (v16 : Int32) =>
    if x = nI 0 then
      ald ((sI τ 206 0 (nI 0)).1 208) 359 (nI 147) fun v17 =>
      some (v17, sI τ 206 0 (nI 0))
    else
    if x = nI 1 then
      bp (f_X12_shining N (sI τ 206 0 (nI 0))) fun v18 =>
      some (v18, sI τ 206 0 (nI 0))
    else
    if x = nI 2 then
      ald ((sI τ 206 0 (nI 0)).1 208) 359 (nI 148) fun v19 =>
      some (v19, sI τ 206 0 (nI 0))
    else
    if x = nI 3 then
      some (v16, sI τ 206 0 (nI 0))
    else
    if x = nI 4 then
      ald ((sI τ 206 0 (nI 0)).1 208) 359 (nI 149) fun v20 =>
      some (v20, sI τ 206 0 (nI 0))
    else
    if x = nI 5 then
      bp (f_X12_oilInAll N (sI τ 206 0 (nI 0))) fun v21 =>
      some (v21, sI τ 206 0 (nI 0))
    else
    some ((-1), sI τ 206 0 (nI 0))) hR0 c1 hW N 0 (by omega) (by omega)
  refine (congrArg (rdE τ _) (e : _ = _)).mpr ?_
  by_cases e0 : x = nI 0
  · rw [if_pos e0, if_pos e0, h7.1, ald_S hR0 (by decide)]
    exact rd_no _ _
  rw [if_neg e0, if_neg e0]
  by_cases e1 : x = nI 1
  · rw [if_pos e1, if_pos e1, c_shiningOnes (by omega) h2 hW h5 h7, m_shining (by omega) hR0 h2 hW, bp_q, bp_q]
    exact rd_no _ _
  rw [if_neg e1, if_neg e1]
  by_cases e2 : x = nI 2
  · rw [if_pos e2, if_pos e2, vl_q, h7.2.2.1, ald_S hR0 (by decide)]
    exact rd_no _ _
  rw [if_neg e2, if_neg e2]
  by_cases e3 : x = nI 3
  · rw [if_pos e3, if_pos e3, c_emptyOnes (by omega) h2 hW h5 h7, bp_q]
    exact rd_no _ _
  rw [if_neg e3, if_neg e3]
  by_cases e4 : x = nI 4
  · rw [if_pos e4, if_pos e4, vl_q, h7.2.1, ald_S hR0 (by decide)]
    exact rd_no _ _
  rw [if_neg e4, if_neg e4]
  by_cases e5 : x = nI 5
  · rw [if_pos e5, if_pos e5, c_oilOfAll (by omega) h2 h5 h7, m_oilInAll (by omega) hR0 h2 hW, bp_q, bp_q]
    exact rd_no _ _
  rw [if_neg e5, if_neg e5]
  exact rd_no _ _
theorem k_confused {σ τ : St} {S : Nat → Nat} {u top N : Nat} {H : Nat → Nat → Nat} (hN : 1000 ≤ N) (hK : KRel σ τ S u top H) : ∃ r, f_X11_confused N σ = some r ∧ f_X12_confused N τ = some (r, sP S (sI τ 206 0 (nI 0)) (S 0)) := by
  have hh := hK
  obtain ⟨h1, h2, hW, h4, h5, h6, h7, h8⟩ := hh
  have hR0 := (KRel_thr hK (nI 0)).1
  unfold f_X11_confused f_X12_confused
  rw [vl_q, c_confused (by omega) h5.1 h2.1 h6, m_laysPairs (by omega) h2 hR0, bp_q, bd_q]
  exact ⟨_, rfl, rfl⟩
