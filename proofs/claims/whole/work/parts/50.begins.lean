/-! a chart that is read begins: the class's seconds, and the model's row -/
theorem d49 : rr 49 4 = 50 ∧ rr 49 5 = 51 ∧ rr 49 6 = 52 ∧ rr 49 7 = 53 ∧ rr 49 8 = 54 := by decide +kernel
section Beg
variable {S : Nat → Nat} {N : Nat} {s : St}
theorem c_begL {k8 : St → Option St} (hM : CRel s 3 4 5 S) (h8 : S 0 ≤ 8) : ∀ F i (t : St), i ≤ S 0 → S 0 - i < F → (∀ c, c ≠ 50 → c ≠ 51 → t.1 c = s.1 c) → t.2 = s.2 → (∀ l, l < i → t.1 50 l = nI (S (35 + l)) ∧ t.1 51 l = nI (S (115 + l))) → ∃ t', f_X6_begin_L23 N 49 k8 F (nI i) t = k8 t' ∧ (∀ c, c ≠ 50 → c ≠ 51 → t'.1 c = s.1 c) ∧ t'.2 = s.2 ∧ ∀ l, l < S 0 → t'.1 50 l = nI (S (35 + l)) ∧ t'.1 51 l = nI (S (115 + l)) := by
  intro F
  induction F with
  | zero => intro i t _ h; omega
  | succ F ih =>
    intro i t hi hF ho h2 hl
    rw [f_X6_begin_L23, vl_q, ho 3 (by decide) (by decide), hM.1, if_leq (by omega) (by omega)]
    by_cases z : S 0 ≤ i
    · rw [if_pos z]
      obtain rfl : i = S 0 := by omega
      exact ⟨t, rfl, ho, h2, hl⟩
    · have r := hM.2.2.2.1 i (by omega)
      rw [d4q (by omega)] at r
      have e1 : t.1 (6 + 2 * i) 5 = nI (S (35 + i)) := by rw [ho _ (by omega) (by omega)]; exact r.2.2.2.2.1
      have e2 : (sI t 50 i (nI (S (35 + i)))).1 (6 + 2 * i) 6 = nI (S (115 + i)) := by rw [sI_ne (by omega), ho _ (by omega) (by omega)]; exact r.2.2.2.2.2.1
      rw [if_neg z, ald_q (by omega) (by decide), d4q (by omega), vl_q, e1, ald_q (by omega) (by decide), d49.1, ald_q (by omega) (by decide), d4q (by omega), vl_q, e2, ald_q (by omega) (by decide), d49.2.1, vl_q, nI_addq]
      refine ih (i + 1) _ (by omega) (by omega) (fun c c1 c2 => by rw [sI_ne c2, sI_ne c1]; exact ho c c1 c2) h2 (fun l hl' => ?_)
      rw [sI_ne (by decide), sI1, if_pos rfl, sI1, if_pos rfl, sI_ne (by decide)]
      by_cases q : l = i
      · rw [if_pos q, if_pos q, q]; exact ⟨rfl, rfl⟩
      · rw [if_neg q, if_neg q]; exact hl l (by omega)
theorem c_begS (hM : CRel s 3 4 5 S) (h4 : S 1 ≤ 4) : ∀ F i (t : St), i ≤ S 1 → S 1 - i < F → (∀ c, c ≠ 52 → c ≠ 53 → c ≠ 54 → t.1 c = s.1 c) → t.2 = s.2 → (∀ k, k < i → t.1 52 k = nI (S (131 + k)) ∧ t.1 53 k = nI (S (135 + k)) ∧ t.1 54 k = nI (S (139 + k))) → ∃ t', f_X6_begin_L78 N 49 F (nI i) t = some t' ∧ (∀ c, c ≠ 52 → c ≠ 53 → c ≠ 54 → t'.1 c = s.1 c) ∧ t'.2 = s.2 ∧ ∀ k, k < S 1 → t'.1 52 k = nI (S (131 + k)) ∧ t'.1 53 k = nI (S (135 + k)) ∧ t'.1 54 k = nI (S (139 + k)) := by
  intro F
  induction F with
  | zero => intro i t _ h; omega
  | succ F ih =>
    intro i t hi hF ho h2 hl
    rw [f_X6_begin_L78, vl_q, ho 3 (by decide) (by decide) (by decide), hM.2.1, if_leq (by omega) (by omega)]
    by_cases z : S 1 ≤ i
    · rw [if_pos z]
      obtain rfl : i = S 1 := by omega
      exact ⟨t, rfl, ho, h2, hl⟩
    · have r := hM.2.2.2.2 i (by omega)
      rw [d5q (by omega)] at r
      have e1 : t.1 (22 + i) 1 = nI (S (131 + i)) := by rw [ho _ (by omega) (by omega) (by omega)]; exact r.1
      have e2 : (sI t 52 i (nI (S (131 + i)))).1 (22 + i) 2 = nI (S (135 + i)) := by rw [sI_ne (by omega), ho _ (by omega) (by omega) (by omega)]; exact r.2.1
      have e3 : (sI (sI t 52 i (nI (S (131 + i)))) 53 i (nI (S (135 + i)))).1 (22 + i) 3 = nI (S (139 + i)) := by rw [sI_ne (by omega), sI_ne (by omega), ho _ (by omega) (by omega) (by omega)]; exact r.2.2.1
      rw [if_neg z, ald_q (by omega) (by decide), d5q (by omega), vl_q, e1, ald_q (by omega) (by decide), d49.2.2.1, ald_q (by omega) (by decide), d5q (by omega), vl_q, e2, ald_q (by omega) (by decide), d49.2.2.2.1, ald_q (by omega) (by decide), d5q (by omega), vl_q, e3, ald_q (by omega) (by decide), d49.2.2.2.2, vl_q, nI_addq]
      refine ih (i + 1) _ (by omega) (by omega) (fun c c1 c2 c3 => by rw [sI_ne c3, sI_ne c2, sI_ne c1]; exact ho c c1 c2 c3) h2 (fun l hl' => ?_)
      rw [sI_ne (by decide), sI_ne (by decide), sI1, if_pos rfl, sI_ne (by decide), sI1, if_pos rfl, sI_ne (by decide), sI1, if_pos rfl, sI_ne (by decide), sI_ne (by decide)]
      by_cases q : l = i
      · rw [if_pos q, if_pos q, if_pos q, q]; exact ⟨rfl, rfl, rfl⟩
      · rw [if_neg q, if_neg q, if_neg q]; exact hl l (by omega)
/-- the row in which a chart begins -/
def WB (S : Nat → Nat) : Prop := S 147 = 0 ∧ S 148 = 0 ∧ S 149 = S 2 ∧ (∀ l, l < 8 → S (150 + l) = S (35 + l) ∧ S (158 + l) = S (115 + l)) ∧ ∀ k, k < 4 → S (166 + k) = S (131 + k) ∧ S (170 + k) = S (135 + k) ∧ S (174 + k) = S (139 + k)
theorem CRel_w {s t : St} (hM : CRel s 3 4 5 S) (h8 : S 0 ≤ 8) (h4 : S 1 ≤ 4) (e : ∀ c, 3 ≤ c → c < 26 → t.1 c = s.1 c) : CRel t 3 4 5 S := by
  obtain ⟨a1, a2, a3, a4, a5⟩ := hM
  refine ⟨by rw [e 3 (by decide) (by decide)]; exact a1, by rw [e 3 (by decide) (by decide)]; exact a2, by rw [e 3 (by decide) (by decide)]; exact a3, fun l hl => ?_, fun k hk => ?_⟩
  · have := a4 l hl
    rw [d4q (by omega)] at this ⊢
    unfold LRel at this ⊢
    rw [d4r (by omega)] at this ⊢
    rw [e _ (by omega) (by omega), e _ (by omega) (by omega)]
    exact this
  · have := a5 k hk
    rw [d5q (by omega)] at this ⊢
    unfold HRel at this ⊢
    rw [e _ (by omega) (by omega)]
    exact this
theorem c_begin (hN : 100 ≤ N) (hM : CRel s 3 4 5 S) (h8 : S 0 ≤ 8) (h4 : S 1 ≤ 4) (hW : WB S) : ∃ t, f_X6_begin N 49 s = some t ∧ SRel t 49 S ∧ (∀ c, ¬ (49 ≤ c ∧ c < 55) → t.1 c = s.1 c) ∧ t.2 = s.2 := by
  obtain ⟨w1, w2, w3, w4, w5⟩ := hW
  unfold f_X6_begin
  have e3 : (sI s 49 1 (nI 0)).1 3 4 = nI (S 2) := by rw [sI_ne (by decide)]; exact hM.2.2.1
  rw [vl_q, vl_q, e3, vl_q, vl_q]
  have c0 : ∀ c, c ≠ 49 → (sI (sI (sI s 49 1 (nI 0)) 49 2 (nI (S 2))) 49 3 (nI 0)).1 c = s.1 c := fun c hc => by rw [sI_ne hc, sI_ne hc, sI_ne hc]
  have M0 : CRel (sI (sI (sI s 49 1 (nI 0)) 49 2 (nI (S 2))) 49 3 (nI 0)) 3 4 5 S := CRel_w hM h8 h4 (fun c c1 c2 => c0 c (by omega))
  obtain ⟨t1, e1, o1, l1, g1⟩ := c_begL (N := N) (k8 := fun s22 => f_X6_begin_L78 N 49 N (nI 0) s22) M0 h8 N 0 _ (Nat.zero_le _) (by omega) (fun _ _ _ => rfl) rfl (fun l hl => absurd hl (Nat.not_lt_zero _))
  have M1 : CRel t1 3 4 5 S := CRel_w M0 h8 h4 (fun c c1 c2 => o1 c (by omega) (by omega))
  obtain ⟨t2, e2, o2, l2, g2⟩ := c_begS (N := N) M1 h4 N 0 _ (Nat.zero_le _) (by omega) (fun _ _ _ _ => rfl) rfl (fun l hl => absurd hl (Nat.not_lt_zero _))
  have a49 : t2.1 49 = (sI (sI (sI s 49 1 (nI 0)) 49 2 (nI (S 2))) 49 3 (nI 0)).1 49 := by rw [o2 49 (by decide) (by decide) (by decide), o1 49 (by decide) (by decide)]
  refine ⟨t2, e1.trans e2, ⟨?_, ?_, ?_, fun l hl => ?_, fun k hk => ?_⟩, fun c hc => ?_, l2.trans l1⟩
  · rw [a49, sI1, if_pos rfl, if_neg (by decide), sI1, if_pos rfl, if_neg (by decide), sI1, if_pos rfl, if_pos rfl, w1]
  · rw [a49, sI1, if_pos rfl, if_neg (by decide), sI1, if_pos rfl, if_pos rfl, w3]
  · rw [a49, sI1, if_pos rfl, if_pos rfl, w2]
  · rw [d49.1, d49.2.1, o2 50 (by decide) (by decide) (by decide), o2 51 (by decide) (by decide) (by decide), (w4 l (by omega)).1, (w4 l (by omega)).2]
    exact g1 l hl
  · rw [d49.2.2.1, d49.2.2.2.1, d49.2.2.2.2, (w5 k (by omega)).1, (w5 k (by omega)).2.1, (w5 k (by omega)).2.2]
    exact g2 k hk
  · rw [o2 c (by omega) (by omega) (by omega), o1 c (by omega) (by omega), c0 c (by omega)]
end Beg
/-! the model's row -/
def n0S (h : Nat → Nat) (j : Nat) : Nat := if j < 147 then h j else 0
def g6S (F : Nat → Nat) (i j : Nat) : Nat := if 150 ≤ j ∧ j < 150 + i then F (j - 115) else if 158 ≤ j ∧ j < 158 + i then F (j - 43) else F j
def g8S (F : Nat → Nat) (i j : Nat) : Nat := if (166 ≤ j ∧ j < 166 + i) ∨ (170 ≤ j ∧ j < 170 + i) ∨ (174 ≤ j ∧ j < 174 + i) then F (j - 35) else F j
def nwS (h : Nat → Nat) : Nat → Nat := g8S (g6S (put (n0S h) 149 (h 2)) 8) 4
section MBeg
variable {h : Nat → Nat} {N : Nat} {s : St}
theorem m_L85 {k26 : St → Option (Int32 × St)} (hR : ∀ j, j < 147 → s.1 209 j = nI (h j)) : ∀ F i (t : St), i ≤ 359 → 359 - i < F → (∀ b, b ≠ 208 → t.1 b = s.1 b) → t.2 = s.2 → (∀ j, j < i → t.1 208 j = nI (n0S h j)) → ∃ t', f_X12_chart_L85 N k26 F (nI i) t = k26 t' ∧ (∀ b, b ≠ 208 → t'.1 b = s.1 b) ∧ t'.2 = s.2 ∧ ∀ j, j < 359 → t'.1 208 j = nI (n0S h j) := by
  intro F
  induction F with
  | zero => intro i t _ h; omega
  | succ F ih =>
    intro i t hi hF ho h2 hl
    rw [f_X12_chart_L85, if_leq (by decide) (by omega)]
    by_cases z : 359 ≤ i
    · rw [if_pos z]
      exact ⟨t, rfl, ho, h2, fun j hj => hl j (by omega)⟩
    · have st : ∀ v, v = nI (n0S h i) → ∃ t', (ald (fun j => sI t 208 j v) 359 (nI i) fun s32 => vl (nI i + nI 1) fun v33 => f_X12_chart_L85 N k26 F v33 s32) = k26 t' ∧ (∀ b, b ≠ 208 → t'.1 b = s.1 b) ∧ t'.2 = s.2 ∧ ∀ j, j < 359 → t'.1 208 j = nI (n0S h j) := fun v hv => by
        rw [ald_q (by omega) (by decide), vl_q, nI_addq]
        refine ih (i + 1) _ (by omega) (by omega) (fun b hb => (sI_ne hb).trans (ho b hb)) h2 (fun j hj => ?_)
        rw [sI1, if_pos rfl]
        by_cases q : j = i
        · rw [if_pos q, q]; exact hv
        · rw [if_neg q]; exact hl j (by omega)
      rw [if_neg z, jn_q, if_leq (by decide) (by omega)]
      by_cases q : 147 ≤ i
      · rw [if_pos q]
        exact st (nI 0) (by unfold n0S; rw [if_neg (by omega)])
      · rw [if_neg q, ald_q (by omega) (by decide)]
        exact st _ (by unfold n0S; rw [if_pos (by omega), ho 209 (by decide)]; exact hR i (by omega))
theorem m_L123 {k38 : St → Option (Int32 × St)} : ∀ F i (t : St), i ≤ 12 → 12 - i < F → t.1 = s.1 → (∀ b, b ≠ 211 → t.2 b = s.2 b) → (∀ j, t.2 211 j = if j < i then s.2 211 (12 + j) else s.2 211 j) → ∃ t', f_X12_chart_L123 N k38 F (nI i) t = k38 t' ∧ t'.1 = s.1 ∧ (∀ b, b ≠ 211 → t'.2 b = s.2 b) ∧ ∀ j, t'.2 211 j = if j < 12 then s.2 211 (12 + j) else s.2 211 j := by
  intro F
  induction F with
  | zero => intro i t _ h; omega
  | succ F ih =>
    intro i t hi hF ho h2 hl
    rw [f_X12_chart_L123, if_leq (by decide) (by omega)]
    by_cases z : 12 ≤ i
    · rw [if_pos z]
      obtain rfl : i = 12 := by omega
      exact ⟨t, rfl, ho, h2, hl⟩
    · rw [if_neg z, nI_addq, ald_q (by omega) (by decide), hl, if_neg (by omega), ald_q (by omega) (by decide), vl_q, nI_addq]
      refine ih (i + 1) _ (by omega) (by omega) ho (fun b hb => (sL_ne hb).trans (h2 b hb)) (fun j => ?_)
      rw [sL2, if_pos rfl]
      by_cases q : j = i
      · rw [if_pos q, if_pos (by omega), q]
      · rw [if_neg q, hl]
        by_cases y : j < i
        · rw [if_pos y, if_pos (by omega)]
        · rw [if_neg y, if_neg (by omega)]
theorem m_L166 {F0 : Nat → Nat} {k50 : St → Option (Int32 × St)} : ∀ F i (t : St), i ≤ 8 → 8 - i < F → (∀ b, b ≠ 208 → t.1 b = s.1 b) → t.2 = s.2 → (∀ j, j < 359 → t.1 208 j = nI (g6S F0 i j)) → ∃ t', f_X12_chart_L166 N k50 F (nI i) t = k50 t' ∧ (∀ b, b ≠ 208 → t'.1 b = s.1 b) ∧ t'.2 = s.2 ∧ ∀ j, j < 359 → t'.1 208 j = nI (g6S F0 8 j) := by
  intro F
  induction F with
  | zero => intro i t _ h; omega
  | succ F ih =>
    intro i t hi hF ho h2 hl
    rw [f_X12_chart_L166, if_leq (by decide) (by omega)]
    by_cases z : 8 ≤ i
    · rw [if_pos z]
      obtain rfl : i = 8 := by omega
      exact ⟨t, rfl, ho, h2, hl⟩
    · have v1 : t.1 208 (35 + i) = nI (F0 (35 + i)) := by
        rw [hl _ (by omega)]; unfold g6S; rw [if_neg (by omega), if_neg (by omega)]
      have v2 : (sI t 208 (150 + i) (nI (F0 (35 + i)))).1 208 (115 + i) = nI (F0 (115 + i)) := by
        rw [sI1, if_pos rfl, if_neg (by omega), hl _ (by omega)]; unfold g6S; rw [if_neg (by omega), if_neg (by omega)]
      rw [if_neg z, nI_addq, nI_addq, nI_addq, nI_addq, ald_q (by omega) (by decide), v1, ald_q (by omega) (by decide), ald_q (by omega) (by decide), v2, ald_q (by omega) (by decide), vl_q, nI_addq]
      refine ih (i + 1) _ (by omega) (by omega) (fun b hb => (sI_ne hb).trans ((sI_ne hb).trans (ho b hb))) h2 (fun j hj => ?_)
      rw [sI1, if_pos rfl, sI1, if_pos rfl]
      by_cases q : j = 158 + i
      · rw [if_pos q]; unfold g6S; rw [if_neg (by omega), if_pos (by omega), q]; congr 2; omega
      · rw [if_neg q]
        by_cases y : j = 150 + i
        · rw [if_pos y]; unfold g6S; rw [if_pos (by omega), y]; congr 2; omega
        · rw [if_neg y, hl j hj]; unfold g6S
          by_cases x1 : 150 ≤ j ∧ j < 150 + i
          · rw [if_pos x1, if_pos (by omega)]
          · rw [if_neg x1]
            by_cases x2 : 158 ≤ j ∧ j < 158 + i
            · rw [if_pos x2, if_neg (by omega), if_pos (by omega)]
            · rw [if_neg x2, if_neg (by omega), if_neg (by omega)]
theorem m_L218 {F0 : Nat → Nat} {k62 : St → Option (Int32 × St)} : ∀ F i (t : St), i ≤ 4 → 4 - i < F → (∀ b, b ≠ 208 → t.1 b = s.1 b) → t.2 = s.2 → (∀ j, j < 359 → t.1 208 j = nI (g8S F0 i j)) → ∃ t', f_X12_chart_L218 N k62 F (nI i) t = k62 t' ∧ (∀ b, b ≠ 208 → t'.1 b = s.1 b) ∧ t'.2 = s.2 ∧ ∀ j, j < 359 → t'.1 208 j = nI (g8S F0 4 j) := by
  intro F
  induction F with
  | zero => intro i t _ h; omega
  | succ F ih =>
    intro i t hi hF ho h2 hl
    rw [f_X12_chart_L218, if_leq (by decide) (by omega)]
    by_cases z : 4 ≤ i
    · rw [if_pos z]
      obtain rfl : i = 4 := by omega
      exact ⟨t, rfl, ho, h2, hl⟩
    · have v1 : t.1 208 (131 + i) = nI (F0 (131 + i)) := by
        rw [hl _ (by omega)]; unfold g8S; rw [if_neg (by omega)]
      have v2 : (sI t 208 (166 + i) (nI (F0 (131 + i)))).1 208 (135 + i) = nI (F0 (135 + i)) := by
        rw [sI1, if_pos rfl, if_neg (by omega), hl _ (by omega)]; unfold g8S; rw [if_neg (by omega)]
      have v3 : (sI (sI t 208 (166 + i) (nI (F0 (131 + i)))) 208 (170 + i) (nI (F0 (135 + i)))).1 208 (139 + i) = nI (F0 (139 + i)) := by
        rw [sI1, if_pos rfl, if_neg (by omega), sI1, if_pos rfl, if_neg (by omega), hl _ (by omega)]; unfold g8S; rw [if_neg (by omega)]
      rw [if_neg z, nI_addq, nI_addq, nI_addq, nI_addq, nI_addq, nI_addq, ald_q (by omega) (by decide), v1, ald_q (by omega) (by decide), ald_q (by omega) (by decide), v2, ald_q (by omega) (by decide), ald_q (by omega) (by decide), v3, ald_q (by omega) (by decide), vl_q, nI_addq]
      refine ih (i + 1) _ (by omega) (by omega) (fun b hb => (sI_ne hb).trans ((sI_ne hb).trans ((sI_ne hb).trans (ho b hb)))) h2 (fun j hj => ?_)
      rw [sI1, if_pos rfl, sI1, if_pos rfl, sI1, if_pos rfl]
      by_cases q : j = 174 + i
      · rw [if_pos q]; unfold g8S; rw [if_pos (by omega), q]; congr 2; omega
      · rw [if_neg q]
        by_cases y : j = 170 + i
        · rw [if_pos y]; unfold g8S; rw [if_pos (by omega), y]; congr 2; omega
        · rw [if_neg y]
          by_cases x : j = 166 + i
          · rw [if_pos x]; unfold g8S; rw [if_pos (by omega), x]; congr 2; omega
          · rw [if_neg x, hl j hj]; unfold g8S
            by_cases x1 : (166 ≤ j ∧ j < 166 + i) ∨ (170 ≤ j ∧ j < 170 + i) ∨ (174 ≤ j ∧ j < 174 + i)
            · rw [if_pos x1, if_pos (by omega)]
            · rw [if_neg x1, if_neg (by omega)]
end MBeg
