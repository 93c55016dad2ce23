/-! the text and its token: both sides together -/
def TxR (σ τ : St) (n L : Nat) (B : Nat → Nat) : Prop := (n ≤ 940 ∧ L ≤ 940 ∧ ∀ j, j < n → B j < 256) ∧ (σ.1 1 1 = nI n ∧ (∀ j, j < n → σ.1 2 j = nI (B j)) ∧ σ.1 1 10 = nI (min n L) ∧ σ.1 1 11 = bI (decide (L < n))) ∧ τ.1 206 3 = nI n ∧ (∀ j, j < n → τ.1 207 j = sbt (B j)) ∧ τ.1 206 5 = nI L ∧ σ.1 1 6 = nI 0 ∧ τ.1 206 15 = nI 0
/-- k: 0 the end, 1 a word (c, d), 2 a number v, 3 a sign v, 4 none; it lies at a, b is behind it -/
def TokR (σ τ : St) (n L k a b c d v : Nat) : Prop := (k ≤ 4 ∧ a ≤ 940 ∧ σ.1 1 2 = nI k ∧ σ.1 1 8 = nI a ∧ τ.1 206 12 = nI a ∧ σ.2 1 3 = l64 (if k = 1 then c else 0) ∧ τ.1 206 11 = nI (if k = 0 ∧ L < n then 4 else k)) ∧ (k = 1 → WdP c d ∧ τ.2 206 17 = l64 d) ∧ (k = 2 ∨ k = 3 → v ≤ 999 ∧ σ.1 1 4 = nI v ∧ τ.1 206 14 = nI v) ∧ (k = 1 ∨ k = 2 ∨ k = 3 → b ≤ n ∧ σ.1 1 9 = nI b ∧ τ.1 206 4 = nI b)
theorem TxR_K {σ σ' τ τ' : St} {n L : Nat} {B : Nat → Nat} {ks ls : List Nat} (h : TxR σ τ n L B) (hF : FK 1 ks σ σ') (hk : 1 ∉ ks ∧ 10 ∉ ks ∧ 11 ∉ ks ∧ 6 ∉ ks) (hG : FK 206 ls τ τ') (hl : 3 ∉ ls ∧ 5 ∉ ls ∧ 15 ∉ ls) : TxR σ' τ' n L B := by
  obtain ⟨h0, ⟨h1, h2, h3, h4⟩, h5, h6, h7, h8, h9⟩ := h
  exact ⟨h0, ⟨by rw [(hF.2 1 hk.1).1]; exact h1, fun j hj => by rw [(hF.1 2 (by decide)).1]; exact h2 j hj, by rw [(hF.2 10 hk.2.1).1]; exact h3, by rw [(hF.2 11 hk.2.2.1).1]; exact h4⟩, by rw [(hG.2 3 hl.1).1]; exact h5, fun j hj => by rw [(hG.1 207 (by decide)).1]; exact h6 j hj, by rw [(hG.2 5 hl.2.1).1]; exact h7, by rw [(hF.2 6 hk.2.2.2).1]; exact h8, by rw [(hG.2 15 hl.2.2).1]; exact h9⟩
theorem TokR_K {σ σ' τ τ' : St} {n L k a b c d v : Nat} {ks ls : List Nat} (h : TokR σ τ n L k a b c d v) (hF : FK 1 ks σ σ') (hk : ∀ x ∈ ks, x = 5 ∨ x = 6 ∨ x = 7) (hG : FK 206 ls τ τ') (hl : ∀ x ∈ ls, x = 0 ∨ x = 2 ∨ x = 15 ∨ x = 16 ∨ 18 ≤ x) : TokR σ' τ' n L k a b c d v := by
  obtain ⟨⟨h1, h2, h3, h4, h5, h6, h7⟩, g1, g2, g3⟩ := h
  have K := fun x (hx : ¬ (x = 5 ∨ x = 6 ∨ x = 7)) => hF.2 x (fun q => hx (hk x q))
  have M := fun x (hx : ¬ (x = 0 ∨ x = 2 ∨ x = 15 ∨ x = 16 ∨ 18 ≤ x)) => hG.2 x (fun q => hx (hl x q))
  refine ⟨⟨h1, h2, by rw [(K 2 (by decide)).1]; exact h3, by rw [(K 8 (by decide)).1]; exact h4, by rw [(M 12 (by decide)).1]; exact h5, by rw [(K 3 (by decide)).2]; exact h6, by rw [(M 11 (by decide)).1]; exact h7⟩, fun q => ⟨(g1 q).1, by rw [(M 17 (by decide)).2]; exact (g1 q).2⟩, fun q => ⟨(g2 q).1, by rw [(K 4 (by decide)).1]; exact (g2 q).2.1, by rw [(M 14 (by decide)).1]; exact (g2 q).2.2⟩, fun q => ⟨(g3 q).1, by rw [(K 9 (by decide)).1]; exact (g3 q).2.1, by rw [(M 4 (by decide)).1]; exact (g3 q).2.2⟩⟩
theorem rk_mk {B : Nat → Nat} {q len : Nat} (h0 : 0 < len) (ha : allN (fun j => isAl (B (q + j))) len = true) : mkN B q len = rkN B q len := by
  have hs := lt_dg B q len ha
  have a0 := allN_iff.mp ha 0 h0
  rw [Nat.add_zero] at a0
  unfold mkN rkN
  by_cases zl : isLt (B q) = true
  · have hd0 : ¬ ltC B q len = 0 := fun w => by
      have := cntN_0.mp w 0 h0
      rw [Nat.add_zero, zl] at this; cases this
    rw [zl, if_neg hd0]
    have key : sameL B q true len = true ↔ dgC B q len = 0 := by
      unfold sameL dgC
      rw [allN_iff, cntN_0]
      constructor
      · intro h k hk
        have := h k hk
        simp only [beq_true] at this
        exact Bool.eq_false_iff.mpr (fun w => by have := Lt_i.mp this; have := Dg_i.mp w; omega)
      · intro h k hk
        have h1 := h k hk
        have h2 := allN_iff.mp ha k hk
        unfold isAl at h2
        rw [h1, Bool.or_false] at h2
        rw [h2]; rfl
    by_cases w : dgC B q len = 0
    · rw [if_pos (key.mpr w), if_pos rfl, if_pos w]
      by_cases y : len ≤ 7
      · rw [if_pos y, if_neg (by omega)]
      · rw [if_neg y, if_pos (by omega)]
    · rw [if_neg (fun x => w (key.mp x)), if_neg w]
  · have zf := Bool.eq_false_iff.mpr zl
    have hd0 : ¬ dgC B q len = 0 := fun w => by
      have := cntN_0.mp w 0 h0
      rw [Nat.add_zero] at this
      unfold isAl at a0
      rw [zf, this] at a0; cases a0
    rw [zf, if_neg hd0]
    have key : sameL B q false len = true ↔ ltC B q len = 0 := by
      unfold sameL ltC
      rw [allN_iff, cntN_0]
      constructor
      · intro h k hk
        have := h k hk
        simp only [beq_false, Bool.not_eq_true'] at this
        exact this
      · intro h k hk
        rw [h k hk]; rfl
    by_cases w : ltC B q len = 0
    · rw [if_pos (key.mpr w), if_neg (by decide), if_pos w]
      by_cases y : len ≤ 3
      · rw [if_pos y, if_neg (by omega)]
      · rw [if_neg y, if_pos (by omega)]
    · rw [if_neg (fun x => w (key.mp x)), if_neg w]
theorem pow3 {i : Nat} (h : i ≤ 3) : 10 ^ i ≤ 1000 := Nat.le_trans (Nat.pow_le_pow_right (by decide) h) (by decide)
/-- the next token -/
theorem nx {σ τ : St} {N n L b : Nat} {B : Nat → Nat} (hN : 1000 ≤ N) (h : TxR σ τ n L B) (hb : b ≤ n) (h9 : σ.1 1 9 = nI b) (h4 : τ.1 206 4 = nI b) : ∃ σ' τ' k a b' c d v, f_X9_next N σ = some σ' ∧ f_X12_next N τ = some τ' ∧ FK 1 [2, 3, 4, 8, 9] σ σ' ∧ FK 206 [4, 11, 12, 13, 14, 17] τ τ' ∧ TokR σ' τ' n L k a b' c d v ∧ (k = 1 ∨ k = 2 ∨ k = 3 → b < b') := by
  obtain ⟨⟨n9, L9, hB⟩, ⟨t1, t2, t3, t4⟩, m3, m7, m5, _⟩ := id h
  obtain ⟨s, e1, f1, c1, c2⟩ := c_next (s := σ) (N := N) (st := min n L) hN t1 t2 t3 h9 hB (Nat.min_le_left _ _) n9 hb _ rfl
  obtain ⟨t, e2, d1, d2⟩ := m_next (s := τ) (N := N) (L := L) hN m3 m7 m5 h4 hB L9 n9 hb _ rfl
  have g2 : FK 206 [4, 11, 12, 13, 14, 17] τ t := FK_m (fr_X12_next (fun x hx => hx) e2) (fm_X12_next (fun x hx => hx) e2)
  have hmin := Nat.min_le_left n L
  have hmin2 := Nat.min_le_right n L
  have hmm : min n L = n ∨ min n L = L := by omega
  have hl := ldN_le (fun i => isBl (B (b + i))) (n - b)
  have hmn := ldN_min (fun i => isBl (B (b + i))) (m := n - b) (m' := min n L - b) (by omega)
  generalize hqm : ldN (fun i => isBl (B (b + i))) (n - b) = jm at *
  generalize hqc : ldN (fun i => isBl (B (b + i))) (min n L - b) = jc at *
  by_cases z : min n L ≤ b + jc
  · -- the end, or the most bytes
    obtain ⟨x1, x2, x3⟩ := c1 z
    refine ⟨s, t, 0, min n L, 0, 0, 0, 0, e1, e2, f1, g2, ⟨⟨by decide, by omega, x1, x2, ?_, by rw [if_neg (by decide)]; exact x3, ?_⟩, fun w => by omega, fun w => by omega, fun w => by omega⟩, fun w => by omega⟩
    · by_cases w : L < n ∧ L ≤ b + jm
      · rw [(d1 w).2]; congr 1; omega
      · rw [(d2 w).1]; congr 1; omega
    · by_cases w : L < n ∧ L ≤ b + jm
      · rw [(d1 w).1, if_pos ⟨rfl, w.1⟩]
      · rw [(d2 w).2.1 (by omega), if_neg (by omega)]
  · have hj : jc = jm := by omega
    subst hj
    obtain ⟨x8, y1, y2⟩ := c2 (by omega)
    have nl : ¬ (L < n ∧ L ≤ b + jc) := by omega
    obtain ⟨w12, w1, w2, w3⟩ := d2 nl
    have hqn : b + jc < n := by omega
    have hrl : rlN B (b + jc) n ≤ n - (b + jc) := ldN_le _ _
    by_cases al : isAl (B (b + jc)) = true
    · have hr0 : 0 < rlN B (b + jc) n := by
        have := (ldN_iff (fun i => isAl (B (b + jc + i))) (n - (b + jc)) 1 (by omega)).mp (by simp only [allN, Nat.add_zero, al]; rfl)
        unfold rlN; omega
      obtain ⟨p2, p9, p3, p4⟩ := y2 (by omega)
      obtain ⟨r11, r4, r17, r14⟩ := w3 hqn al
      have ha : allN (fun j => isAl (B (b + jc + j))) (rlN B (b + jc) n) = true := ldN_all _ _
      have hmk := rk_mk hr0 ha
      rw [hmk] at r11
      generalize hlen : rlN B (b + jc) n = len at *
      have hs := lt_dg B (b + jc) len ha
      by_cases k1 : rkN B (b + jc) len = 1
      · have hd : dgC B (b + jc) len = 0 ∧ ¬ 7 < ltC B (b + jc) len := by
          unfold rkN at k1
          by_cases u : dgC B (b + jc) len = 0
          · rw [if_pos u] at k1
            by_cases u2 : 7 < ltC B (b + jc) len
            · rw [if_pos u2] at k1; omega
            · exact ⟨u, u2⟩
          · rw [if_neg u] at k1
            by_cases u2 : ltC B (b + jc) len = 0
            · rw [if_pos u2] at k1
              split at k1 <;> omega
            · rw [if_neg u2] at k1; omega
        have hall : ∀ j, j < len → isLt (B (b + jc + j)) = true := fun j hj => by
          have h1 := cntN_0.mp hd.1 j hj
          have h2 := allN_iff.mp ha j hj
          unfold isAl at h2
          rw [h1, Bool.or_false] at h2
          exact h2
        rw [if_pos k1] at p3
        refine ⟨s, t, 1, b + jc, b + jc + len, c5f B (b + jc) len, w8f B (b + jc) len, 0, e1, e2, f1, g2, ⟨⟨by decide, by omega, by rw [p2, k1], x8, w12, by rw [if_pos rfl]; exact p3, by rw [r11, k1, if_neg (by omega)]⟩, fun _ => ⟨⟨fun j => B (b + jc + j) - 96, len, by omega, fun j hj => by have := Lt_i.mp (hall j hj); dsimp only; omega, c5f_e5 B _ len hall, w8f_e8 B _ len (by omega) hall⟩, r17⟩, fun w => by omega, fun _ => ⟨by omega, p9, r4⟩⟩, fun _ => by omega⟩
      · by_cases k2 : rkN B (b + jc) len = 2
        · have hd : ltC B (b + jc) len = 0 ∧ ¬ 3 < dgC B (b + jc) len := by
            unfold rkN at k2
            by_cases u : dgC B (b + jc) len = 0
            · rw [if_pos u] at k2
              split at k2 <;> omega
            · rw [if_neg u] at k2
              by_cases u2 : ltC B (b + jc) len = 0
              · rw [if_pos u2] at k2
                by_cases u3 : 3 < dgC B (b + jc) len
                · rw [if_pos u3] at k2; omega
                · exact ⟨u2, u3⟩
              · rw [if_neg u2] at k2; omega
          have hall : ∀ j, j < len → isDg (B (b + jc + j)) = true := fun j hj => by
            have h1 := cntN_0.mp hd.1 j hj
            have h2 := allN_iff.mp ha j hj
            unfold isAl at h2
            rw [h1, Bool.false_or] at h2
            exact h2
          have hv := vcf_nmf B (b + jc) len (by omega) hall
          have hp := pow3 (i := len) (by omega)
          rw [if_neg (by omega)] at p3
          refine ⟨s, t, 2, b + jc, b + jc + len, 0, 0, vcf B (b + jc) len, e1, e2, f1, g2, ⟨⟨by decide, by omega, by rw [p2, k2], x8, w12, by rw [if_neg (by decide)]; exact p3, by rw [r11, k2, if_neg (by omega)]⟩, fun w => by omega, fun _ => ⟨by omega, p4, by rw [r14, hv.1]⟩, fun _ => ⟨by omega, p9, r4⟩⟩, fun _ => by omega⟩
        · have k4 : rkN B (b + jc) len = 4 := by
            unfold rkN at k1 k2 ⊢
            split
            · next u =>
              rw [if_pos u] at k1 k2
              split
              · rfl
              · next u2 => rw [if_neg u2] at k1; omega
            · next u =>
              rw [if_neg u] at k1 k2
              split
              · next u2 =>
                rw [if_pos u2] at k2
                split
                · rfl
                · next u3 => rw [if_neg u3] at k2; omega
              · rfl
          rw [if_neg k1] at p3
          refine ⟨s, t, 4, b + jc, 0, 0, 0, 0, e1, e2, f1, g2, ⟨⟨by decide, by omega, by rw [p2, k4], x8, w12, by rw [if_neg (by decide)]; exact p3, by rw [r11, k4, if_neg (by omega)]⟩, fun w => by omega, fun w => by omega, fun w => by omega⟩, fun w => by omega⟩
    · have hr0 : rlN B (b + jc) n = 0 := by
        rcases Nat.eq_zero_or_pos (rlN B (b + jc) n) with w | w
        · exact w
        · exfalso
          have := allN_iff.mp (ldN_all (fun i => isAl (B (b + jc + i))) (n - (b + jc))) 0 w
          rw [Nat.add_zero] at this
          exact al this
      obtain ⟨p2, p3, p4, p9⟩ := y1 hr0
      obtain ⟨r11, r14, r4⟩ := w2 hqn (Bool.eq_false_iff.mpr al)
      have hbq := hB (b + jc) hqn
      by_cases sg : isSg (B (b + jc)) = true
      · rw [if_pos sg] at p2 r11
        exact ⟨s, t, 3, b + jc, b + jc + 1, 0, 0, B (b + jc), e1, e2, f1, g2, ⟨⟨by decide, by omega, p2, x8, w12, by rw [if_neg (by decide)]; exact p3, by rw [if_neg (by omega)]; exact r11⟩, fun w => by omega, fun _ => ⟨by omega, p4, r14⟩, fun _ => ⟨by omega, p9, r4⟩⟩, fun _ => by omega⟩
      · rw [if_neg sg] at p2 r11
        exact ⟨s, t, 4, b + jc, 0, 0, 0, 0, e1, e2, f1, g2, ⟨⟨by decide, by omega, p2, x8, w12, by rw [if_neg (by decide)]; exact p3, by rw [if_neg (by omega)]; exact r11⟩, fun w => by omega, fun w => by omega, fun w => by omega⟩, fun w => by omega⟩
