theorem nI_nm1 {a : Nat} (h : a < 2147483648) : ¬ nI a = -1 := by
  intro z
  have := congrArg Int32.toInt z
  rw [nI_toInt h, show (-1 : Int32).toInt = -1 from rfl] at this
  omega
theorem if_nm1 {T : Type} {a : Nat} {A B : T} (h : a < 2147483648) : (if nI a = -1 then A else B) = B := if_neg (nI_nm1 h)
theorem m_visL {S : Nat → Nat} {τ : St} {N : Nat} {x y hz : Int32} (p : Nat → Bool) (hR : RS S τ) (hn : S 0 ≤ 8) (hp : ∀ l, l < S 0 → f_X12_isVisibleBy (nI l) x y hz τ = some (bI (p l))) : ∀ n l, l ≤ S 0 → S 0 - l < n → f_X12_visibleFrom_L6 N x y hz τ n (nI (bset p l)) (nI l) = some (nI (bset p (S 0))) := by
  intro n
  induction n with
  | zero => intro l _ h; omega
  | succ n ih =>
    intro l hl hn'
    have hb := bset_lt8 p (show l ≤ 8 by omega)
    have hb2 := bset_lt p l
    rw [f_X12_visibleFrom_L6]
    rw [ald_S hR (by decide), if_leq (by omega) (by omega)]
    by_cases hc : S 0 ≤ l
    · rw [if_pos hc]
      obtain rfl : l = S 0 := by omega
      rfl
    · rw [if_neg hc]
      rw [hp l (by omega), bp_q]
      simp only [jn_q, vl_q, if_bI]
      have := ih (l + 1) (by omega) (by omega)
      by_cases hpl : p l = true
      · rw [if_pos hpl, or_bit hb2 (by omega), nI_addq]
        simpa only [bset, if_pos hpl] using this
      · rw [if_neg hpl, or_0, nI_addq]
        simpa only [bset, if_neg hpl, Nat.add_zero] using this
theorem m_shiL {S : Nat → Nat} {τ : St} {N : Nat} (p : Nat → Bool) (hR : RS S τ) (hn : S 0 ≤ 8) (hp : ∀ l, l < S 0 → f_X12_isShining N (nI l) τ = some (bI (p l))) : ∀ n l, l ≤ S 0 → S 0 - l < n → f_X12_shining_L4 N τ n (nI (bset p l)) (nI l) = some (nI (bset p (S 0))) := by
  intro n
  induction n with
  | zero => intro l _ h; omega
  | succ n ih =>
    intro l hl hn'
    have hb := bset_lt8 p (show l ≤ 8 by omega)
    have hb2 := bset_lt p l
    rw [f_X12_shining_L4]
    rw [ald_S hR (by decide), if_leq (by omega) (by omega)]
    by_cases hc : S 0 ≤ l
    · rw [if_pos hc]
      obtain rfl : l = S 0 := by omega
      rfl
    · rw [if_neg hc]
      rw [hp l (by omega), bp_q]
      simp only [jn_q, vl_q, if_bI]
      have := ih (l + 1) (by omega) (by omega)
      by_cases hpl : p l = true
      · rw [if_pos hpl, or_bit hb2 (by omega), nI_addq]
        simpa only [bset, if_pos hpl] using this
      · rw [if_neg hpl, or_0, nI_addq]
        simpa only [bset, if_neg hpl, Nat.add_zero] using this
theorem m_alkL {S : Nat → Nat} {τ : St} {N : Nat} {c : Int32} (p : Nat → Bool) (hR : RS S τ) (hn : S 0 ≤ 8) (hp : ∀ l, l < S 0 → f_X12_isAlike N c (nI l) τ = some (bI (p l))) : ∀ n l, l ≤ S 0 → S 0 - l < n → f_X12_alikes_L4 N c τ n (nI (bset p l)) (nI l) = some (nI (bset p (S 0))) := by
  intro n
  induction n with
  | zero => intro l _ h; omega
  | succ n ih =>
    intro l hl hn'
    have hb := bset_lt8 p (show l ≤ 8 by omega)
    have hb2 := bset_lt p l
    rw [f_X12_alikes_L4]
    rw [ald_S hR (by decide), if_leq (by omega) (by omega)]
    by_cases hc : S 0 ≤ l
    · rw [if_pos hc]
      obtain rfl : l = S 0 := by omega
      rfl
    · rw [if_neg hc]
      rw [hp l (by omega), bp_q]
      simp only [jn_q, vl_q, if_bI]
      have := ih (l + 1) (by omega) (by omega)
      by_cases hpl : p l = true
      · rw [if_pos hpl, or_bit hb2 (by omega), nI_addq]
        simpa only [bset, if_pos hpl] using this
      · rw [if_neg hpl, or_0, nI_addq]
        simpa only [bset, if_neg hpl, Nat.add_zero] using this
theorem m_dryL {S : Nat → Nat} {τ : St} {N : Nat} {c : Int32} {k6 : Int32 → Option (Int32 × St)} (p : Nat → Bool) (hR : RS S τ) (hn : S 0 ≤ 8) (hp : ∀ l, l < S 0 → p l = decide (S (150 + l) = 0)) (ho : ∀ l, l < S 0 → S (150 + l) ≤ 999) : ∀ n l, l ≤ S 0 → S 0 - l < n → f_X12_now_L9 N c τ k6 n (nI (bset p l)) (nI l) = k6 (nI (bset p (S 0))) := by
  intro n
  induction n with
  | zero => intro l _ h; omega
  | succ n ih =>
    intro l hl hn'
    have hb := bset_lt8 p (show l ≤ 8 by omega)
    have hb2 := bset_lt p l
    rw [f_X12_now_L9]
    rw [ald_S hR (by decide), if_leq (by omega) (by omega)]
    by_cases hc : S 0 ≤ l
    · rw [if_pos hc]
      obtain rfl : l = S 0 := by omega
      rfl
    · rw [if_neg hc]
      have hol := ho l (by omega)
      have hpl' := hp l (by omega)
      rw [nI_addq, ald_S hR (by omega)]
      simp only [jn_q, vl_q]
      rw [if_eq0 (by omega)]
      have := ih (l + 1) (by omega) (by omega)
      by_cases hpl : p l = true
      · rw [if_pos (of_decide_eq_true (hpl' ▸ hpl)), or_bit hb2 (by omega), nI_addq]
        simpa only [bset, if_pos hpl] using this
      · rw [if_neg (fun z => hpl (by rw [hpl']; exact decide_eq_true z)), or_0, nI_addq]
        simpa only [bset, if_neg hpl, Nat.add_zero] using this
/-! the class's chart and scene, told by S -/
def LRel (σ : St) (a : Nat) (S : Nat → Nat) (l : Nat) : Prop := σ.1 a 1 = nI (S (3 + l)) ∧ σ.1 a 2 = nI (S (11 + l)) ∧ σ.1 a 3 = nI (S (19 + l)) ∧ σ.1 a 4 = nI (S (27 + l)) ∧ σ.1 a 5 = nI (S (35 + l)) ∧ σ.1 a 6 = nI (S (115 + l)) ∧ σ.1 a 8 = nI (S (123 + l)) ∧ σ.1 a 9 = nI (S (43 + l)) ∧ σ.1 a 10 = nI (perS S l) ∧ ∀ p, p < perS S l → σ.1 (rr a 11) p = bI (onS S l p)
def HRel (σ : St) (a : Nat) (S : Nat → Nat) (k : Nat) : Prop := σ.1 a 1 = nI (S (131 + k)) ∧ σ.1 a 2 = nI (S (135 + k)) ∧ σ.1 a 3 = nI (S (139 + k)) ∧ σ.1 a 4 = nI (S (143 + k))
/-- a chart at c, its lights at A, its ships at B -/
def CRel (σ : St) (c A B : Nat) (S : Nat → Nat) : Prop := σ.1 c 2 = nI (S 0) ∧ σ.1 c 3 = nI (S 1) ∧ σ.1 c 4 = nI (S 2) ∧ (∀ l, l < S 0 → LRel σ (rr A l) S l) ∧ ∀ k, k < S 1 → HRel σ (rr B k) S k
def SRel (σ : St) (b : Nat) (S : Nat → Nat) : Prop := σ.1 b 1 = nI (S 147) ∧ σ.1 b 2 = nI (S 149) ∧ σ.1 b 3 = nI (S 148) ∧ (∀ l, l < S 0 → σ.1 (rr b 4) l = nI (S (150 + l)) ∧ σ.1 (rr b 5) l = nI (S (158 + l))) ∧ ∀ k, k < S 1 → σ.1 (rr b 6) k = nI (S (166 + k)) ∧ σ.1 (rr b 7) k = nI (S (170 + k)) ∧ σ.1 (rr b 8) k = nI (S (174 + k))
theorem c_isVisible {S : Nat → Nat} {σ : St} {a l x y hz : Nat} (h : WFl S l) (hL : LRel σ a S l) (hx : x ≤ 1000) (hy : y ≤ 1000) (hz9 : hz ≤ 30) : f_X4_isVisible a (nI x) (nI y) (nI hz) σ = some (bI (visS S l x y hz)) := by
  obtain ⟨h1, h2, ⟨h3, h3'⟩, h4, h5, h6, h7, h8, h9⟩ := h
  obtain ⟨r1, r2, r3, r4, r5, r6, r8, r9, r10, r11⟩ := hL
  unfold f_X4_isVisible
  simp only [vl_q, r1, r2, r3, r8]
  have el : mn (nI (S (19 + l))) (nI hz) = nI (min (S (19 + l)) hz) := by
    unfold mn
    rw [if_ltq (by omega) (by omega)]
    split
    · rw [Nat.min_eq_right (by omega)]
    · rw [Nat.min_eq_left (by omega)]
  have e1 := pk_sub_toInt (a := x) (b := S (3 + l)) (by omega) (by omega)
  have e2 := pk_sub_toInt (a := y) (b := S (11 + l)) (by omega) (by omega)
  rw [el, c_octantOf (by rw [e1]; omega) (by rw [e2]; omega), bp_q, e1, e2]
  have hdq := dist_q (X := S (3 + l)) (Y := S (11 + l)) (R := min (S (19 + l)) hz) (x := x) (y := y) (by omega) (by omega) (by omega) hx hy
  rw [Int32.lt_iff_toInt_lt] at hdq
  unfold visS visN
  by_cases hd : ((x : Int) - S (3 + l)) * ((x : Int) - S (3 + l)) + ((y : Int) - S (11 + l)) * ((y : Int) - S (11 + l)) ≤ ((min (S (19 + l)) hz : Nat) : Int) * (min (S (19 + l)) hz : Nat)
  · rw [if_pos (by rw [Int32.le_iff_toInt_le]; exact Int.not_lt.mp (fun z => hdq.mp z hd)), decide_eq_true hd, Bool.true_and]
    have ho := octN_le ((x : Int) - S (3 + l)) ((y : Int) - S (11 + l))
    generalize octN ((x : Int) - S (3 + l)) ((y : Int) - S (11 + l)) = o at ho ⊢
    by_cases h8' : o = 8
    · subst h8'
      rw [if_pos (by decide)]
      rfl
    · rw [show oI o = nI o from if_neg h8', if_neg (nI_nm1 (by omega)), shr_bit o (by omega) _ h9, if_eq0 (by omega), decide_eq_false h8', Bool.false_or]
      by_cases hb : S (123 + l) / 2 ^ o % 2 = 0
      · rw [if_pos hb, decide_eq_true hb]; rfl
      · rw [if_neg hb, decide_eq_false hb]; rfl
  · rw [if_neg (by rw [Int32.le_iff_toInt_le]; exact Int.not_le.mpr (hdq.mpr hd)), decide_eq_false hd, Bool.false_and]; rfl
theorem c_visL {S : Nat → Nat} {σ : St} {N : Nat} {b : Nat} {x y : Int32} (p : Nat → Bool) (h0 : σ.1 3 2 = nI (S 0)) (hn : S 0 ≤ 8) (hp : ∀ l, l < S 0 → f_X4_isVisible (rr 4 l) x y (σ.1 b 2) σ = some (bI (p l))) : ∀ n l, l ≤ S 0 → S 0 - l < n → f_X6_visibleFrom_L5 N b x y σ n (nI (bset p l)) (nI l) = some (nI (bset p (S 0))) := by
  intro n
  induction n with
  | zero => intro l _ h; omega
  | succ n ih =>
    intro l hl hn'
    have hb := bset_lt8 p (show l ≤ 8 by omega)
    have hb2 := bset_lt p l
    rw [f_X6_visibleFrom_L5]
    simp only [vl_q]
    rw [h0, if_leq (by omega) (by omega)]
    by_cases hc : S 0 ≤ l
    · rw [if_pos hc]
      obtain rfl : l = S 0 := by omega
      rfl
    · rw [if_neg hc]
      rw [ald_q (by omega) (by decide), hp l (by omega), bp_q]
      simp only [jn_q, vl_q, if_bI]
      have := ih (l + 1) (by omega) (by omega)
      by_cases hpl : p l = true
      · rw [if_pos hpl, or_bit hb2 (by omega), nI_addq]
        simpa only [bset, if_pos hpl] using this
      · rw [if_neg hpl, nI_addq]
        simpa only [bset, if_neg hpl, Nat.add_zero] using this
theorem c_shiL {S : Nat → Nat} {σ : St} {N : Nat} {b : Nat} (p : Nat → Bool) (h0 : σ.1 3 2 = nI (S 0)) (hn : S 0 ≤ 8) (hp : ∀ l, l < S 0 → f_X6_shines b (nI l) σ = some (bI (p l))) : ∀ n l, l ≤ S 0 → S 0 - l < n → f_X6_shiningOnes_L4 N b σ n (nI (bset p l)) (nI l) = some (nI (bset p (S 0))) := by
  intro n
  induction n with
  | zero => intro l _ h; omega
  | succ n ih =>
    intro l hl hn'
    have hb := bset_lt8 p (show l ≤ 8 by omega)
    have hb2 := bset_lt p l
    rw [f_X6_shiningOnes_L4]
    simp only [vl_q]
    rw [h0, if_leq (by omega) (by omega)]
    by_cases hc : S 0 ≤ l
    · rw [if_pos hc]
      obtain rfl : l = S 0 := by omega
      rfl
    · rw [if_neg hc]
      rw [hp l (by omega), bp_q]
      simp only [jn_q, vl_q, if_bI]
      have := ih (l + 1) (by omega) (by omega)
      by_cases hpl : p l = true
      · rw [if_pos hpl, or_bit hb2 (by omega), nI_addq]
        simpa only [bset, if_pos hpl] using this
      · rw [if_neg hpl, nI_addq]
        simpa only [bset, if_neg hpl, Nat.add_zero] using this
theorem c_dryL {S : Nat → Nat} {σ : St} {N : Nat} {b : Nat} (p : Nat → Bool) (h0 : σ.1 3 2 = nI (S 0)) (hn : S 0 ≤ 8) (hp : ∀ l, l < S 0 → σ.1 (rr b 4) l = nI (S (150 + l)) ∧ S (150 + l) ≤ 999 ∧ p l = decide (S (150 + l) = 0)) : ∀ n l, l ≤ S 0 → S 0 - l < n → f_X6_emptyOnes_L4 N b σ n (nI (bset p l)) (nI l) = some (nI (bset p (S 0))) := by
  intro n
  induction n with
  | zero => intro l _ h; omega
  | succ n ih =>
    intro l hl hn'
    have hb := bset_lt8 p (show l ≤ 8 by omega)
    have hb2 := bset_lt p l
    rw [f_X6_emptyOnes_L4]
    simp only [vl_q]
    rw [h0, if_leq (by omega) (by omega)]
    by_cases hc : S 0 ≤ l
    · rw [if_pos hc]
      obtain rfl : l = S 0 := by omega
      rfl
    · rw [if_neg hc]
      obtain ⟨g1, g2, hpl'⟩ := hp l (by omega)
      rw [ald_q (by omega) (by decide), g1]
      simp only [jn_q, vl_q]
      rw [if_eq0 (by omega)]
      have := ih (l + 1) (by omega) (by omega)
      by_cases hpl : p l = true
      · rw [if_pos (of_decide_eq_true (hpl' ▸ hpl)), or_bit hb2 (by omega), nI_addq]
        simpa only [bset, if_pos hpl] using this
      · rw [if_neg (fun z => hpl (by rw [hpl']; exact decide_eq_true z)), nI_addq]
        simpa only [bset, if_neg hpl, Nat.add_zero] using this
