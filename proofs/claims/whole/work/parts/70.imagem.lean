/-! the model's loops of image and restore -/
theorem mul359 {w : Nat} (h : w < 2) : nI 359 * nI w = nI (359 * w) ∧ nI 12 * nI w = nI (12 * w) := by
  have : ∀ w, w < 2 → nI 359 * nI w = nI (359 * w) ∧ nI 12 * nI w = nI (12 * w) := by decide +kernel
  exact this w h
section Img
variable {s : St} {N w : Nat} {k : St → Option (Int32 × St)}
theorem m_im18 (hw : w < 2) : ∀ F i (t : St), i ≤ 359 → 359 - i < F → (∀ b, b ≠ 222 → t.1 b = s.1 b) → t.2 = s.2 → (∀ j, t.1 222 j = if 359 * w ≤ j ∧ j < 359 * w + i then s.1 208 (j - 359 * w) else s.1 222 j) → ∃ t', f_X12_image_L18 N (nI w) k F (nI i) t = k t' ∧ (∀ b, b ≠ 222 → t'.1 b = s.1 b) ∧ t'.2 = s.2 ∧ ∀ j, t'.1 222 j = if 359 * w ≤ j ∧ j < 359 * w + 359 then s.1 208 (j - 359 * w) else s.1 222 j := by
  intro F
  induction F with
  | zero => intro i t _ h; omega
  | succ F ih =>
    intro i t hi hF ho h2 hl
    rw [f_X12_image_L18, if_leq (by decide) (by omega)]
    by_cases z : 359 ≤ i
    · rw [if_pos z]
      obtain rfl : i = 359 := by omega
      exact ⟨t, rfl, ho, h2, hl⟩
    · rw [if_neg z, ald_q (by omega) (by decide), ho 208 (by decide), (mul359 hw).1, nI_addq, ald_q (by omega) (by decide), vl_q, nI_addq]
      refine ih (i + 1) _ (by omega) (by omega) (fun b hb => (sI_ne hb).trans (ho b hb)) h2 (fun j => ?_)
      rw [sI1, if_pos rfl]
      by_cases q : j = 359 * w + i
      · rw [if_pos q, if_pos (by omega), q, Nat.add_sub_cancel_left]
      · rw [if_neg q, hl]
        by_cases y : 359 * w ≤ j ∧ j < 359 * w + i
        · rw [if_pos y, if_pos (by omega)]
        · rw [if_neg y, if_neg (by omega)]
theorem m_im51 (hw : w < 2) : ∀ F i (t : St), i ≤ 12 → 12 - i < F → t.1 = s.1 → (∀ b, b ≠ 223 → t.2 b = s.2 b) → (∀ j, t.2 223 j = if 12 * w ≤ j ∧ j < 12 * w + i then s.2 211 (j - 12 * w) else s.2 223 j) → ∃ t', f_X12_image_L51 N (nI w) k F (nI i) t = k t' ∧ t'.1 = s.1 ∧ (∀ b, b ≠ 223 → t'.2 b = s.2 b) ∧ ∀ j, t'.2 223 j = if 12 * w ≤ j ∧ j < 12 * w + 12 then s.2 211 (j - 12 * w) else s.2 223 j := by
  intro F
  induction F with
  | zero => intro i t _ h; omega
  | succ F ih =>
    intro i t hi hF ho h2 hl
    rw [f_X12_image_L51, if_leq (by decide) (by omega)]
    by_cases z : 12 ≤ i
    · rw [if_pos z]
      obtain rfl : i = 12 := by omega
      exact ⟨t, rfl, ho, h2, hl⟩
    · rw [if_neg z, ald_q (by omega) (by decide), h2 211 (by decide), (mul359 hw).2, nI_addq, ald_q (by omega) (by decide), vl_q, nI_addq]
      refine ih (i + 1) _ (by omega) (by omega) ho (fun b hb => (sL_ne hb).trans (h2 b hb)) (fun j => ?_)
      rw [sL2, if_pos rfl]
      by_cases q : j = 12 * w + i
      · rw [if_pos q, if_pos (by omega), q, Nat.add_sub_cancel_left]
      · rw [if_neg q, hl]
        by_cases y : 12 * w ≤ j ∧ j < 12 * w + i
        · rw [if_pos y, if_pos (by omega)]
        · rw [if_neg y, if_neg (by omega)]
theorem m_re27 (hw : w < 2) : ∀ F i (t : St), i ≤ 359 → 359 - i < F → (∀ b, b ≠ 208 → t.1 b = s.1 b) → t.2 = s.2 → (∀ j, t.1 208 j = if j < i then s.1 222 (359 * w + j) else s.1 208 j) → ∃ t', f_X12_restore_L27 N (nI w) k F (nI i) t = k t' ∧ (∀ b, b ≠ 208 → t'.1 b = s.1 b) ∧ t'.2 = s.2 ∧ ∀ j, t'.1 208 j = if j < 359 then s.1 222 (359 * w + j) else s.1 208 j := by
  intro F
  induction F with
  | zero => intro i t _ h; omega
  | succ F ih =>
    intro i t hi hF ho h2 hl
    rw [f_X12_restore_L27, if_leq (by decide) (by omega)]
    by_cases z : 359 ≤ i
    · rw [if_pos z]
      obtain rfl : i = 359 := by omega
      exact ⟨t, rfl, ho, h2, hl⟩
    · rw [if_neg z, (mul359 hw).1, nI_addq, ald_q (by omega) (by decide), ho 222 (by decide), ald_q (by omega) (by decide), vl_q, nI_addq]
      refine ih (i + 1) _ (by omega) (by omega) (fun b hb => (sI_ne hb).trans (ho b hb)) h2 (fun j => ?_)
      rw [sI1, if_pos rfl]
      by_cases q : j = i
      · rw [if_pos q, if_pos (by omega), q]
      · rw [if_neg q, hl]
        by_cases y : j < i
        · rw [if_pos y, if_pos (by omega)]
        · rw [if_neg y, if_neg (by omega)]
theorem m_re60 (hw : w < 2) : ∀ F i (t : St), i ≤ 12 → 12 - i < F → t.1 = s.1 → (∀ b, b ≠ 211 → t.2 b = s.2 b) → (∀ j, t.2 211 j = if j < i then s.2 223 (12 * w + j) else s.2 211 j) → ∃ t', f_X12_restore_L60 N (nI w) k F (nI i) t = k t' ∧ t'.1 = s.1 ∧ (∀ b, b ≠ 211 → t'.2 b = s.2 b) ∧ ∀ j, t'.2 211 j = if j < 12 then s.2 223 (12 * w + j) else s.2 211 j := by
  intro F
  induction F with
  | zero => intro i t _ h; omega
  | succ F ih =>
    intro i t hi hF ho h2 hl
    rw [f_X12_restore_L60, if_leq (by decide) (by omega)]
    by_cases z : 12 ≤ i
    · rw [if_pos z]
      obtain rfl : i = 12 := by omega
      exact ⟨t, rfl, ho, h2, hl⟩
    · rw [if_neg z, (mul359 hw).2, nI_addq, ald_q (by omega) (by decide), h2 223 (by decide), ald_q (by omega) (by decide), vl_q, nI_addq]
      refine ih (i + 1) _ (by omega) (by omega) ho (fun b hb => (sL_ne hb).trans (h2 b hb)) (fun j => ?_)
      rw [sL2, if_pos rfl]
      by_cases q : j = i
      · rw [if_pos q, if_pos (by omega), q]
      · rw [if_neg q, hl]
        by_cases y : j < i
        · rw [if_pos y, if_pos (by omega)]
        · rw [if_neg y, if_neg (by omega)]
end Img
