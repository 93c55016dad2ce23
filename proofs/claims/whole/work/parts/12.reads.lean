/-! places, shining, what a ship sees: both sides -/
def plS (S : Nat → Nat) (l n : Nat) : Nat := (S 147 + n + S (158 + l)) % perS S l
def shineS (S : Nat → Nat) (l : Nat) : Bool := decide (S 148 / 2 ^ l % 2 = 0) && (decide (0 < S (150 + l)) && onS S l (plS S l 0))
theorem plS_lt (S : Nat → Nat) (l n : Nat) : plS S l n < perS S l := Nat.mod_lt _ (perS_pos S l)
theorem onS_mod (S : Nat → Nat) (l p : Nat) : onS S l (p % perS S l) = onS S l p := by
  unfold onS
  rw [Nat.mod_mod]
section ReadsM
variable {S : Nat → Nat} {τ : St} {N : Nat}
theorem m_placeIn {l n : Nat} (hN : 10 ≤ N) (hR : RS S τ) (hl : l < 8) (h : WFl S l) (h1 : S 147 ≤ 5000) (h2 : S (158 + l) < 160) (hn : n ≤ 1000000) : f_X12_placeIn N (nI l) (nI n) τ = some (nI (plS S l n)) := by
  unfold f_X12_placeIn
  have hle := perS_le h
  rw [ald_S hR (by decide)]
  simp only [nI_addq]
  rw [ald_S hR (by omega), m_periodOf hN hR hl h, bp_q]
  simp only [nI_addq]
  rw [rm_q (by omega) (perS_pos S l) (by omega)]
  rfl
theorem m_isShining {l : Nat} (hN : 10 ≤ N) (hR : RS S τ) (hl : l < 8) (h : WFl S l) (h1 : S 147 ≤ 5000) (h2 : S (158 + l) < 160) (h3 : S 148 < 256) (h4 : S (150 + l) ≤ 999) : f_X12_isShining N (nI l) τ = some (bI (shineS S l)) := by
  unfold f_X12_isShining
  have hle := perS_le h
  have hpl := plS_lt S l 0
  rw [ald_S hR (by decide), m_bitOf h3 hl, bp_q]
  simp only [jn_q, nI_addq]
  unfold shineS
  by_cases hb : S 148 / 2 ^ l % 2 = 0
  · rw [decide_eq_false (show ¬ S 148 / 2 ^ l % 2 = 1 by omega), if_bI, if_neg Bool.false_ne_true, ald_S hR (by omega), if_le0 (by omega), decide_eq_true hb, Bool.true_and]
    by_cases ho : S (150 + l) = 0
    · rw [if_pos ho, decide_eq_false (by omega), Bool.false_and]; rfl
    · rw [if_neg ho, decide_eq_true (by omega), Bool.true_and, m_placeIn hN hR hl h h1 h2 (by decide), bp_q, m_isOn hN hR hl h (by omega), bp_q, if_bI]
      cases onS S l (plS S l 0) <;> rfl
  · rw [decide_eq_true (show S 148 / 2 ^ l % 2 = 1 by omega), bI_t, if_neg (by decide), decide_eq_false hb, Bool.false_and]; rfl
theorem m_shining (hN : 10 ≤ N) (hR : RS S τ) (hC : WFC S) (hW : WFW S) : f_X12_shining N τ = some (nI (bset (shineS S) (S 0))) := by
  obtain ⟨c1, c2, c3, c4, c5⟩ := hC
  obtain ⟨w1, w2, w3, w4, w5⟩ := hW
  exact m_shiL (shineS S) hR c1 (fun l hl => m_isShining hN hR (by omega) (c4 l hl) w1 (w4 l hl).2 w2.1 (w4 l hl).1) N 0 (by omega) (by omega)
theorem m_visibleFrom {x y hz : Nat} (hN : 10 ≤ N) (hR : RS S τ) (hC : WFC S) (hx : x ≤ 1000) (hy : y ≤ 1000) (hz9 : hz ≤ 30) : f_X12_visibleFrom N (nI x) (nI y) (nI hz) τ = some (nI (bset (fun l => visS S l x y hz) (S 0))) := by
  obtain ⟨c1, c2, c3, c4, c5⟩ := hC
  exact m_visL (fun l => visS S l x y hz) hR c1 (fun l hl => m_visBy hR (by omega) (c4 l hl) hx hy hz9) N 0 (by omega) (by omega)
/-- what a ship sees -/
def seesS (S : Nat → Nat) (k : Nat) : Nat := bset (fun l => visS S l (S (166 + k)) (S (170 + k)) (S 149)) (S 0) &&& bset (shineS S) (S 0)
theorem m_seenBy {k : Nat} (hN : 10 ≤ N) (hR : RS S τ) (hC : WFC S) (hW : WFW S) (hk : k < S 1) : f_X12_seenBy N (nI k) τ = some (nI (seesS S k)) := by
  unfold f_X12_seenBy
  have c2 := hC.2.1
  have w5 := hW.2.2.2.2 k hk
  have w3 := hW.2.2.1
  simp only [nI_addq]
  rw [ald_S hR (by omega), ald_S hR (by omega), ald_S hR (by decide), m_visibleFrom hN hR hC (by omega) (by omega) (by omega), bp_q, m_shining hN hR hC hW, bp_q, nI_and]
  rfl
def oilS (S : Nat → Nat) : Nat → Nat
  | 0 => 0
  | n + 1 => oilS S n + S (150 + n)
theorem oilS_le {S : Nat → Nat} : ∀ {n : Nat}, (∀ l, l < n → S (150 + l) ≤ 999) → oilS S n ≤ 999 * n
  | 0, _ => by simp [oilS]
  | n + 1, h => by
    have := oilS_le (n := n) (fun l hl => h l (by omega))
    have := h n (by omega)
    simp only [oilS]
    omega
theorem m_oilL (hR : RS S τ) (hn : S 0 ≤ 8) (ho : ∀ l, l < S 0 → S (150 + l) ≤ 999) : ∀ n l, l ≤ S 0 → S 0 - l < n → f_X12_oilInAll_L4 N τ n (nI (oilS S l)) (nI l) = some (nI (oilS S (S 0))) := by
  intro n
  induction n with
  | zero => intro l _ h; omega
  | succ n ih =>
    intro l hl hn'
    rw [f_X12_oilInAll_L4, ald_S hR (by decide), if_leq (by omega) (by omega)]
    by_cases hc : S 0 ≤ l
    · rw [if_pos hc]
      obtain rfl : l = S 0 := by omega
      rfl
    · rw [if_neg hc]
      simp only [nI_addq, vl_q]
      rw [ald_S hR (by omega)]
      simp only [nI_addq]
      exact ih (l + 1) (by omega) (by omega)
theorem m_oilInAll (hN : 10 ≤ N) (hR : RS S τ) (hC : WFC S) (hW : WFW S) : f_X12_oilInAll N τ = some (nI (oilS S (S 0))) := by
  have c1 := hC.1
  exact m_oilL hR c1 (fun l hl => (hW.2.2.2.1 l hl).1) N 0 (by omega) (by omega)
end ReadsM
section ReadsX
variable {S : Nat → Nat} {σ : St} {N b : Nat}
theorem c_remainder {a d : Nat} (ha : a < 2147483648) (h0 : 0 < d) (hd : d < 2147483648) : f_X11_remainder (nI a) (nI d) σ = some (nI (a % d)) := by
  unfold f_X11_remainder
  rw [if_le0 hd, if_neg (by omega), rm_q ha h0 hd]
theorem c_placeOf {l : Nat} (hC : WFC S) (hW : WFW S) (hM : CRel σ 3 4 5 S) (hS : SRel σ b S) (hl : l < S 0) : f_X6_placeOf b (nI l) σ = some (nI (plS S l 0)) := by
  have c1 := hC.1
  have hle := perS_le (hC.2.2.2.1 l hl)
  have h2 := hW.2.2.2.1 l hl
  have h1 := hW.1
  unfold f_X6_placeOf
  rw [vl_q, ald_q (by omega) (by decide), ald_q (by omega) (by decide), vl_q, hS.1, (hS.2.2.2.1 l hl).2, (hM.2.2.2.1 l hl).2.2.2.2.2.2.2.2.1]
  simp only [nI_addq]
  rw [c_remainder (by omega) (perS_pos S l) (by omega)]
  rfl
theorem c_isOut {l : Nat} (h3 : S 148 < 256) (hS : SRel σ b S) (hl : l < 8) : f_X6_isOut b (nI l) σ = some (bI (decide (S 148 / 2 ^ l % 2 = 1))) := by
  unfold f_X6_isOut
  rw [vl_q, hS.2.2.1, shr_bit l hl _ h3, if_eq0 (by omega)]
  by_cases hb : S 148 / 2 ^ l % 2 = 0
  · rw [if_pos hb, decide_eq_false (by omega)]; rfl
  · rw [if_neg hb, decide_eq_true (by omega)]; rfl
theorem c_shines {l : Nat} (hC : WFC S) (hW : WFW S) (hM : CRel σ 3 4 5 S) (hS : SRel σ b S) (hl : l < S 0) : f_X6_shines b (nI l) σ = some (bI (shineS S l)) := by
  have c1 := hC.1
  have hle := perS_le (hC.2.2.2.1 l hl)
  have h2 := hW.2.2.2.1 l hl
  have hpl := plS_lt S l 0
  unfold f_X6_shines
  rw [c_isOut hW.2.1.1 hS (by omega), bp_q]
  simp only [jn_q]
  unfold shineS
  by_cases hb : S 148 / 2 ^ l % 2 = 0
  · rw [decide_eq_false (show ¬ S 148 / 2 ^ l % 2 = 1 by omega), if_bI, if_neg Bool.false_ne_true, ald_q (by omega) (by decide), (hS.2.2.2.1 l hl).1, if_le0 (by omega), decide_eq_true hb, Bool.true_and]
    by_cases ho : S (150 + l) = 0
    · rw [if_pos ho, decide_eq_false (by omega), Bool.false_and]; rfl
    · rw [if_neg ho, decide_eq_true (by omega), Bool.true_and, ald_q (by omega) (by decide), c_placeOf hC hW hM hS hl, bp_q, ald_q (by omega) (by decide), (hM.2.2.2.1 l hl).2.2.2.2.2.2.2.2.2 _ hpl, if_bI]
      cases onS S l (plS S l 0) <;> rfl
  · rw [decide_eq_true (show S 148 / 2 ^ l % 2 = 1 by omega), bI_t, if_neg (by decide), decide_eq_false hb, Bool.false_and]; rfl
theorem c_shiningOnes (hN : 10 ≤ N) (hC : WFC S) (hW : WFW S) (hM : CRel σ 3 4 5 S) (hS : SRel σ b S) : f_X6_shiningOnes N b σ = some (nI (bset (shineS S) (S 0))) := by
  have c1 := hC.1
  exact c_shiL (shineS S) hM.1 c1 (fun l hl => c_shines hC hW hM hS hl) N 0 (by omega) (by omega)
theorem c_visibleFrom {x y : Nat} (hN : 10 ≤ N) (hC : WFC S) (hM : CRel σ 3 4 5 S) (hx : x ≤ 1000) (hy : y ≤ 1000) (hz9 : S 149 ≤ 30) (hb : σ.1 b 2 = nI (S 149)) : f_X6_visibleFrom N b (nI x) (nI y) σ = some (nI (bset (fun l => visS S l x y (S 149)) (S 0))) := by
  have c1 := hC.1
  exact c_visL (fun l => visS S l x y (S 149)) hM.1 c1 (fun l hl => by rw [hb]; exact c_isVisible (hC.2.2.2.1 l hl) (hM.2.2.2.1 l hl) hx hy hz9) N 0 (by omega) (by omega)
theorem c_seenBy {k : Nat} (hN : 10 ≤ N) (hC : WFC S) (hW : WFW S) (hM : CRel σ 3 4 5 S) (hS : SRel σ b S) (hk : k < S 1) : f_X6_seenBy N b (nI k) σ = some (nI (seesS S k)) := by
  have c2 := hC.2.1
  have w5 := hW.2.2.2.2 k hk
  unfold f_X6_seenBy
  rw [ald_q (by omega) (by decide), ald_q (by omega) (by decide), (hS.2.2.2.2 k hk).1, (hS.2.2.2.2 k hk).2.1, c_visibleFrom hN hC hM (by omega) (by omega) hW.2.2.1.2 hS.2.1, bp_q, c_shiningOnes hN hC hW hM hS, bp_q, nI_and]
  rfl
theorem c_emptyOnes (hN : 10 ≤ N) (hC : WFC S) (hW : WFW S) (hM : CRel σ 3 4 5 S) (hS : SRel σ b S) : f_X6_emptyOnes N b σ = some (nI (bset (fun l => decide (S (150 + l) = 0)) (S 0))) := by
  have c1 := hC.1
  exact c_dryL (fun l => decide (S (150 + l) = 0)) hM.1 c1 (fun l hl => ⟨(hS.2.2.2.1 l hl).1, (hW.2.2.2.1 l hl).1, rfl⟩) N 0 (by omega) (by omega)
theorem c_oilL (h0 : σ.1 3 2 = nI (S 0)) (hn : S 0 ≤ 8) (ho : ∀ l, l < S 0 → σ.1 (rr b 4) l = nI (S (150 + l))) : ∀ n l, l ≤ S 0 → S 0 - l < n → f_X6_oilOfAll_L4 N b σ n (nI (oilS S l)) (nI l) = some (nI (oilS S (S 0))) := by
  intro n
  induction n with
  | zero => intro l _ h; omega
  | succ n ih =>
    intro l hl hn'
    rw [f_X6_oilOfAll_L4, vl_q, h0, if_leq (by omega) (by omega)]
    by_cases hc : S 0 ≤ l
    · rw [if_pos hc]
      obtain rfl : l = S 0 := by omega
      rfl
    · rw [if_neg hc, ald_q (by omega) (by decide), ho l (by omega)]
      simp only [nI_addq, vl_q]
      exact ih (l + 1) (by omega) (by omega)
theorem c_oilOfAll (hN : 10 ≤ N) (hC : WFC S) (hM : CRel σ 3 4 5 S) (hS : SRel σ b S) : f_X6_oilOfAll N b σ = some (nI (oilS S (S 0))) := by
  have c1 := hC.1
  exact c_oilL hM.1 c1 (fun l hl => (hS.2.2.2.1 l hl).1) N 0 (by omega) (by omega)
theorem c_isLight (hn : S 0 ≤ 8) (h0 : σ.1 3 2 = nI (S 0)) (x : Int32) : f_X11_isLight x σ = some (bI (isN x (S 0))) := by
  unfold f_X11_isLight isN
  have e0 : (0 : Int32).toInt = 0 := rfl
  have e1 := nI_toInt (n := S 0) (by omega)
  simp only [jn_q, vl_q, h0, Int32.lt_iff_toInt_lt, Int32.le_iff_toInt_le, e0, e1]
  split
  · rw [decide_eq_false (by omega)]; rfl
  · split
    · rw [decide_eq_false (by omega)]; rfl
    · rw [decide_eq_true (by omega)]; rfl
theorem c_isShip (hn : S 1 ≤ 4) (h0 : σ.1 3 3 = nI (S 1)) (x : Int32) : f_X11_isShip x σ = some (bI (isN x (S 1))) := by
  unfold f_X11_isShip isN
  have e0 : (0 : Int32).toInt = 0 := rfl
  have e1 := nI_toInt (n := S 1) (by omega)
  simp only [jn_q, vl_q, h0, Int32.lt_iff_toInt_lt, Int32.le_iff_toInt_le, e0, e1]
  split
  · rw [decide_eq_false (by omega)]; rfl
  · split
    · rw [decide_eq_false (by omega)]; rfl
    · rw [decide_eq_true (by omega)]; rfl
end ReadsX
