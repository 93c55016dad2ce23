/-! the model's image and restore -/
section Imq
variable {τ : St} {N w : Nat}
theorem isIn01 (hw : w < 2) (s : St) : f_X12_isIn (nI w) (nI 0) (nI 1) s = some (nI 1) := by
  rw [m_isIn, nI_toInt (by decide), nI_toInt (by omega), nI_toInt (by decide), decide_eq_true (by omega)]
  rfl
theorem m_image (hN : 1000 ≤ N) (hw : w < 2) : ∃ τ', f_X12_image N (nI w) τ = some (nI 1, τ') ∧ (∀ b, b ≠ 206 → b ≠ 222 → b ≠ 224 → τ'.1 b = τ.1 b) ∧ (∀ k, k ≠ 0 → τ'.1 206 k = τ.1 206 k) ∧ (∀ j, τ'.1 222 j = if 359 * w ≤ j ∧ j < 359 * w + 359 then τ.1 208 (j - 359 * w) else τ.1 222 j) ∧ (∀ j, τ'.1 224 j = if j = w then nI 1 else τ.1 224 j) ∧ (∀ b, b ≠ 223 → τ'.2 b = τ.2 b) ∧ ∀ j, τ'.2 223 j = if 12 * w ≤ j ∧ j < 12 * w + 12 then τ.2 211 (j - 12 * w) else τ.2 223 j := by
  unfold f_X12_image
  rw [vl_q, isIn01 hw, bp_q, if_one]
  obtain ⟨t1, e1, o1, l1, r1⟩ := m_im18 (N := N) (w := w) (s := sI τ 206 0 (nI 0)) (k := fun (s13 : St) => f_X12_image_L51 N (nI w) (fun (s24 : St) => ald (fun j => sI s24 224 j ((nI 1) &&& 1)) 2 (nI w) fun s25 => some ((nI 1), s25)) N (nI 0) s13) hw N 0 _ (by decide) (by omega) (fun _ _ => rfl) rfl (fun j => by rw [if_neg (by omega)])
  obtain ⟨t2, e2, o2, l2, r2⟩ := m_im51 (N := N) (w := w) (s := t1) (k := fun (s24 : St) => ald (fun j => sI s24 224 j ((nI 1) &&& 1)) 2 (nI w) fun s25 => some ((nI 1), s25)) hw N 0 t1 (by decide) (by omega) rfl (fun _ _ => rfl) (fun j => by rw [if_neg (by omega)])
  have ob : ∀ b, b ≠ 222 → b ≠ 224 → (sI t2 224 w ((nI 1) &&& 1)).1 b = (sI τ 206 0 (nI 0)).1 b := fun b b1 b2 => by rw [sI_ne b2, o2, o1 b b1]
  refine ⟨sI t2 224 w ((nI 1) &&& 1), ?_, fun b b1 b2 b3 => ?_, fun k hk => ?_, fun j => ?_, fun j => ?_, fun b b1 => ?_, fun j => ?_⟩
  · rw [e1, e2, ald_q hw (by decide)]
  · rw [ob b b2 b3, sI_ne b1]
  · rw [ob 206 (by decide) (by decide), sI1, if_pos rfl, if_neg hk]
  · rw [sI_ne (by decide), o2, r1, sI_ne (by decide), sI_ne (by decide)]
  · rw [sI1, if_pos rfl, o2, o1 224 (by decide), sI_ne (by decide)]
    by_cases y : j = w
    · rw [if_pos y, if_pos y]; decide
    · rw [if_neg y, if_neg y]
  · show t2.2 b = _
    rw [l2 b b1, l1]; rfl
  · show t2.2 223 j = _
    rw [r2, l1]; rfl
theorem m_restore (hN : 1000 ≤ N) (hw : w < 2) (h : τ.1 224 w = nI 1) : ∃ τ', f_X12_restore N (nI w) τ = some (nI 1, τ') ∧ (∀ b, b ≠ 206 → b ≠ 208 → τ'.1 b = τ.1 b) ∧ (∀ k, k ≠ 0 → k ≠ 24 → τ'.1 206 k = τ.1 206 k) ∧ τ'.1 206 24 = nI 0 ∧ (∀ j, τ'.1 208 j = if j < 359 then τ.1 222 (359 * w + j) else τ.1 208 j) ∧ (∀ b, b ≠ 211 → τ'.2 b = τ.2 b) ∧ ∀ j, τ'.2 211 j = if j < 12 then τ.2 223 (12 * w + j) else τ.2 211 j := by
  unfold f_X12_restore
  have h' : (sI τ 206 0 (nI 0)).1 224 w = nI 1 := by rw [sI_ne (by decide)]; exact h
  rw [vl_q, isIn01 hw, bp_q, if_one, ald_q hw (by decide), h', if_one]
  obtain ⟨t1, e1, o1, l1, r1⟩ := m_re27 (N := N) (w := w) (s := sI τ 206 0 (nI 0)) (k := fun (s14 : St) => f_X12_restore_L60 N (nI w) (fun (s25 : St) => vl (sI s25 206 24 (nI 0)) fun s26 => some ((nI 1), s26)) N (nI 0) s14) hw N 0 _ (by decide) (by omega) (fun _ _ => rfl) rfl (fun j => by rw [if_neg (by omega)])
  obtain ⟨t2, e2, o2, l2, r2⟩ := m_re60 (N := N) (w := w) (s := t1) (k := fun (s25 : St) => vl (sI s25 206 24 (nI 0)) fun s26 => some ((nI 1), s26)) hw N 0 t1 (by decide) (by omega) rfl (fun _ _ => rfl) (fun j => by rw [if_neg (by omega)])
  refine ⟨sI t2 206 24 (nI 0), ?_, fun b b1 b2 => ?_, fun k k0 k1 => ?_, ?_, fun j => ?_, fun b b1 => ?_, fun j => ?_⟩
  · rw [e1, e2, vl_q]
  · rw [sI_ne b1, o2, o1 b b2, sI_ne b1]
  · rw [sI1, if_pos rfl, if_neg k1, o2, o1 206 (by decide), sI1, if_pos rfl, if_neg k0]
  · rw [sI1, if_pos rfl, if_pos rfl]
  · rw [sI_ne (by decide), o2, r1, sI_ne (by decide), sI_ne (by decide)]
  · show t2.2 b = _
    rw [l2 b b1, l1]; rfl
  · show t2.2 211 j = _
    rw [r2, l1]; rfl
end Imq
