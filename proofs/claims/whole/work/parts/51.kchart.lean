/-! a chart is told: both sides -/
theorem nw_lo {h : Nat → Nat} {j : Nat} (hj : j < 147) : nwS h j = h j := by
  unfold nwS g8S g6S
  rw [if_neg (by omega), if_neg (by omega), if_neg (by omega), put_ne (by omega)]
  unfold n0S
  rw [if_pos hj]
theorem nw_hi {h : Nat → Nat} {j : Nat} (hj : j = 147 ∨ j = 148 ∨ 178 ≤ j) : nwS h j = 0 := by
  unfold nwS g8S g6S
  rw [if_neg (by omega), if_neg (by omega), if_neg (by omega), put_ne (by omega)]
  unfold n0S
  rw [if_neg (by omega)]
theorem nw_9 {h : Nat → Nat} : nwS h 149 = h 2 := by
  unfold nwS g8S g6S
  rw [if_neg (by omega), if_neg (by omega), if_neg (by omega), put_eq]
theorem nw_l {h : Nat → Nat} {l : Nat} (hl : l < 8) : nwS h (150 + l) = h (35 + l) ∧ nwS h (158 + l) = h (115 + l) := by
  unfold nwS g8S g6S
  rw [if_neg (by omega), if_pos (by omega), if_neg (by omega), if_neg (by omega), if_pos (by omega), show 150 + l - 115 = 35 + l by omega, show 158 + l - 43 = 115 + l by omega, put_ne (by omega), put_ne (by omega)]
  unfold n0S
  rw [if_pos (by omega), if_pos (by omega)]
  exact ⟨rfl, rfl⟩
theorem nw_k {h : Nat → Nat} {k : Nat} (hk : k < 4) : nwS h (166 + k) = h (131 + k) ∧ nwS h (170 + k) = h (135 + k) ∧ nwS h (174 + k) = h (139 + k) := by
  have e : ∀ j, 131 ≤ j → j < 143 → g6S (put (n0S h) 149 (h 2)) 8 j = h j := fun j h1 h2 => by
    unfold g6S
    rw [if_neg (by omega), if_neg (by omega), put_ne (by omega)]
    unfold n0S
    rw [if_pos (by omega)]
  unfold nwS g8S
  rw [if_pos (by omega), if_pos (by omega), if_pos (by omega), show 166 + k - 35 = 131 + k by omega, show 170 + k - 35 = 135 + k by omega, show 174 + k - 35 = 139 + k by omega, e _ (by omega) (by omega), e _ (by omega) (by omega), e _ (by omega) (by omega)]
  exact ⟨rfl, rfl, rfl⟩
theorem nw_a {h : Nat → Nat} {l : Nat} (hl : l < 8) : agr h (nwS h) l := fun j hj => nw_lo (by unfold idxL at hj; omega)
theorem nw_WB (h : Nat → Nat) : WB (nwS h) := ⟨nw_hi (by omega), nw_hi (by omega), by rw [nw_9, nw_lo (by decide)], fun l hl => by rw [(nw_l hl).1, (nw_l hl).2, nw_lo (by omega), nw_lo (by omega)]; exact ⟨rfl, rfl⟩, fun k hk => by rw [(nw_k hk).1, (nw_k hk).2.1, (nw_k hk).2.2, nw_lo (by omega), nw_lo (by omega), nw_lo (by omega)]; exact ⟨rfl, rfl, rfl⟩⟩
section KC
variable {σ τ : St} {h : Nat → Nat} {g : Nat}
theorem nw_C (D : DR σ τ h g) : WFC (nwS h) ∧ WFW (nwS h) := by
  obtain ⟨_, ⟨a0, a1, a2, a3⟩, _, _, c4, _, c6, _⟩ := D
  have e0 : nwS h 0 = h 0 := nw_lo (by decide)
  have e1 : nwS h 1 = h 1 := nw_lo (by decide)
  have e2 : nwS h 2 = h 2 := nw_lo (by decide)
  have s7 : nwS h 147 = 0 := nw_hi (by omega)
  have s8 : nwS h 148 = 0 := nw_hi (by omega)
  have wl : ∀ l, l < h 0 → WFl h l := fun l hl => (c4 l hl).1
  have wk : ∀ k, k < h 1 → WFs h k := fun k hk => (c6 k hk).1
  refine ⟨⟨by rw [e0]; exact a0, by rw [e1]; exact a1, by rw [e2]; exact ⟨a2, a3⟩, fun l hl => ?_, fun k hk => ?_⟩, ⟨by rw [s7]; decide, ?_, by rw [nw_9]; exact ⟨a2, a3⟩, fun l hl => ?_, fun k hk => ?_⟩⟩
  · rw [e0] at hl
    exact WFl_a (nw_a (by omega)) (wl l hl)
  · rw [e1] at hk
    have := wk k hk
    unfold WFs at this ⊢
    rw [nw_lo (by omega), nw_lo (by omega), nw_lo (by omega), nw_lo (by omega)]
    exact this
  · rw [s8]
    exact ⟨by decide, Nat.two_pow_pos _⟩
  · rw [e0] at hl
    have w := wl l hl
    rw [(nw_l (by omega)).1, (nw_l (by omega)).2]
    exact ⟨w.2.2.2.2.1, by have := w.2.2.2.2.2.2.2.1; omega⟩
  · rw [e1] at hk
    have w := wk k hk
    rw [(nw_k (by omega)).1, (nw_k (by omega)).2.1, (nw_k (by omega)).2.2]
    exact ⟨w.1, w.2.1, w.2.2.1⟩
theorem LRel_cp {s t : St} {S : Nat → Nat} {x y l : Nat} (c : LCp s t x y) (hx : rr x 11 = x + 1) (hy : rr y 11 = y + 1) (hp : perS S l ≤ 160) (r : LRel s y S l) : LRel t x S l := by
  obtain ⟨c1, _, c3⟩ := c
  unfold LRel at r ⊢
  rw [hy] at r
  rw [hx]
  obtain ⟨r1, r2, r3, r4, r5, r6, r8, r9, r10, r11⟩ := r
  have e := fun k (hk : tfl k) => c1 k hk
  exact ⟨by rw [e 1 (by unfold tfl; omega)]; exact r1, by rw [e 2 (by unfold tfl; omega)]; exact r2, by rw [e 3 (by unfold tfl; omega)]; exact r3, by rw [e 4 (by unfold tfl; omega)]; exact r4, by rw [e 5 (by unfold tfl; omega)]; exact r5, by rw [e 6 (by unfold tfl; omega)]; exact r6, by rw [e 8 (by unfold tfl; omega)]; exact r8, by rw [e 9 (by unfold tfl; omega)]; exact r9, by rw [e 10 (by unfold tfl; omega)]; exact r10, fun p hp' => by rw [c3 p (by omega)]; exact r11 p hp'⟩
theorem CRel_o {s t : St} {S : Nat → Nat} (h8 : S 0 ≤ 8) (h4 : S 1 ≤ 4) (ho : Ot s t) (hM : CRel s 3 4 5 S) : CRel t 3 4 5 S := by
  obtain ⟨a1, a2, a3, a4, a5⟩ := hM
  refine ⟨by rw [ho.2 3 2 (by omega)]; exact a1, by rw [ho.2 3 3 (by omega)]; exact a2, by rw [ho.2 3 4 (by omega)]; exact a3, fun l hl => ?_, fun k hk => ?_⟩
  · have := a4 l hl
    rw [d4q (by omega)] at this ⊢
    exact LRel_o (by omega) ho this
  · have := a5 k hk
    rw [d5q (by omega)] at this ⊢
    unfold HRel at this ⊢
    rw [ho.2 _ 1 (by omega), ho.2 _ 2 (by omega), ho.2 _ 3 (by omega), ho.2 _ 4 (by omega)]
    exact this
/-- the model's row, names and count are laid -/
theorem m_chK {N : Nat} (hN : 1000 ≤ N) (hR : RH h τ) : ∃ τ', chK N τ = some (τ.1 206 19, τ') ∧ (∀ j, j < 359 → τ'.1 208 j = nI (nwS h j)) ∧ (∀ b, b ≠ 208 → b ≠ 206 → τ'.1 b = τ.1 b) ∧ (∀ k, k ≠ 24 → τ'.1 206 k = τ.1 206 k) ∧ τ'.1 206 24 = nI 0 ∧ (∀ b, b ≠ 211 → τ'.2 b = τ.2 b) ∧ ∀ j, τ'.2 211 j = if j < 12 then τ.2 211 (12 + j) else τ.2 211 j := by
  unfold chK
  obtain ⟨t1, e1, o1, l1, r1⟩ := m_L85 (N := N) (s := τ) (h := h) (k26 := fun (s35 : St) => f_X12_chart_L123 N (fun (s45 : St) => ald (s45.1 208) 359 (nI 2) fun v46 => ald (fun j => sI s45 208 j v46) 359 (nI 149) fun s47 => f_X12_chart_L166 N (fun (s59 : St) => f_X12_chart_L218 N (fun (s73 : St) => vl (sI s73 206 24 (nI 0)) fun s74 => vl (s74.1 206 19) fun v75 => some (v75, s74)) N (nI 0) s59) N (nI 0) s47) N (nI 0) s35) hR N 0 τ (Nat.zero_le _) (by omega) (fun _ _ => rfl) rfl (fun j hj => absurd hj (Nat.not_lt_zero _))
  obtain ⟨t2, e2, o2, l2, n2⟩ := m_L123 (N := N) (s := t1) (k38 := (fun (s45 : St) => ald (s45.1 208) 359 (nI 2) fun v46 => ald (fun j => sI s45 208 j v46) 359 (nI 149) fun s47 => f_X12_chart_L166 N (fun (s59 : St) => f_X12_chart_L218 N (fun (s73 : St) => vl (sI s73 206 24 (nI 0)) fun s74 => vl (s74.1 206 19) fun v75 => some (v75, s74)) N (nI 0) s59) N (nI 0) s47)) N 0 t1 (by decide) (by omega) rfl (fun _ _ => rfl) (fun j => by rw [if_neg (Nat.not_lt_zero _)])
  have r2 : ∀ j, j < 359 → t2.1 208 j = nI (n0S h j) := fun j hj => by rw [o2]; exact r1 j hj
  have v2 : n0S h 2 = h 2 := if_pos (by decide)
  obtain ⟨t3, e3, o3, l3, r3⟩ := m_L166 (N := N) (s := sI t2 208 149 (nI (h 2))) (F0 := put (n0S h) 149 (h 2)) (k50 := (fun (s59 : St) => f_X12_chart_L218 N (fun (s73 : St) => vl (sI s73 206 24 (nI 0)) fun s74 => vl (s74.1 206 19) fun v75 => some (v75, s74)) N (nI 0) s59)) N 0 _ (by decide) (by omega) (fun _ _ => rfl) rfl (fun j hj => by
    unfold g6S
    rw [if_neg (by omega), if_neg (by omega), sI1, if_pos rfl]
    by_cases q : j = 149
    · rw [if_pos q, q, put_eq]
    · rw [if_neg q, put_ne q]; exact r2 j hj)
  obtain ⟨t4, e4, o4, l4, r4⟩ := m_L218 (N := N) (s := t3) (F0 := g6S (put (n0S h) 149 (h 2)) 8) (k62 := (fun (s73 : St) => vl (sI s73 206 24 (nI 0)) fun s74 => vl (s74.1 206 19) fun v75 => some (v75, s74))) N 0 t3 (by decide) (by omega) (fun _ _ => rfl) rfl (fun j hj => by
    rw [r3 j hj]
    unfold g8S
    rw [if_neg (by omega)])
  have ro : ∀ b, b ≠ 208 → t4.1 b = τ.1 b := fun b hb => by rw [o4 b hb, o3 b hb, sI_ne hb, o2, o1 b hb]
  have lo : t4.2 = t2.2 := by rw [l4, l3]; rfl
  refine ⟨sI t4 206 24 (nI 0), ?_, fun j hj => ?_, fun b b1 b2 => ?_, fun k hk => ?_, ?_, fun b hb => ?_, fun j => ?_⟩
  · rw [e1, e2, ald_q (by decide) (by decide), r2 2 (by decide), v2, ald_q (by decide) (by decide), e3, e4, vl_q, vl_q, sI1, if_pos rfl, if_neg (by decide), ro 206 (by decide)]
  · rw [sI_ne (by decide)]; exact r4 j hj
  · rw [sI_ne b2]; exact ro b b1
  · rw [sI1, if_pos rfl, if_neg hk, ro 206 (by decide)]
  · rw [sI1, if_pos rfl, if_pos rfl]
  · show t4.2 b = _
    rw [lo, l2 b hb, l1]
  · show t4.2 211 j = _
    rw [lo, n2, l1]
end KC
