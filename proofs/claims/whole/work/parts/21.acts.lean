/-! acts upon a scene: both sides -/
theorem or_set : ∀ l, l < 8 → ∀ b, b < 256 → b / 2 ^ l % 2 = 0 → nI b ||| (nI 1 <<< (nI l &&& 31)) = nI (b + 2 ^ l) ∧ b + 2 ^ l < 256 := by decide +kernel
theorem and_clr : ∀ l, l < 8 → ∀ b, b < 256 → b / 2 ^ l % 2 = 1 → nI b &&& ((nI 1 <<< (nI l &&& 31)) ^^^ (-1)) = nI (b - 2 ^ l) := by decide +kernel
theorem set_lt : ∀ n, n ≤ 8 → ∀ l, l < n → ∀ b, b < 2 ^ n → b / 2 ^ l % 2 = 0 → b + 2 ^ l < 2 ^ n := by decide +kernel
/-- why not (0: it is done), and what is so then -/
def douW (S : Nat → Nat) (l : Nat) : Nat := if S 148 / 2 ^ l % 2 = 1 then 1 else 0
def douT (S : Nat → Nat) (l : Nat) : Nat → Nat := put S 148 (S 148 + 2 ^ l)
def kinW (S : Nat → Nat) (l : Nat) : Nat := if S 148 / 2 ^ l % 2 = 0 then 1 else if S (150 + l) = 0 then 2 else 0
def kinT (S : Nat → Nat) (l : Nat) : Nat → Nat := put S 148 (S 148 - 2 ^ l)
def filW (S : Nat → Nat) (l n : Nat) : Nat := if S (150 + l) + n ≤ 999 then 0 else 1
def filT (S : Nat → Nat) (l n : Nat) : Nat → Nat := put S (150 + l) (S (150 + l) + n)
def shfW (S : Nat → Nat) (l : Nat) : Nat := if S (43 + l) = 0 then 1 else 0
def shfT (S : Nat → Nat) (l n : Nat) : Nat → Nat := put S (158 + l) ((S (158 + l) + n) % perS S l)
def steW (S : Nat → Nat) (k c : Nat) : Nat := if S (174 + k) = c then 1 else 0
def steT (S : Nat → Nat) (k c : Nat) : Nat → Nat := put S (174 + k) c
def hazW (S : Nat → Nat) (n : Nat) : Nat := if S 149 = n then 1 else 0
def hazT (S : Nat → Nat) (n : Nat) : Nat → Nat := put S 149 n
theorem m2 (b : Nat) : b % 2 = 0 ∨ b % 2 = 1 := by omega
theorem W_out {S : Nat → Nat} (hW : WFW S) {v : Nat} (h1 : v < 256) (h2 : v < 2 ^ S 0) : WFW (put S 148 v) := by
  obtain ⟨w1, w2, w3, w4, w5⟩ := hW
  unfold WFW
  rw [put_eq, put_ne (show 147 ≠ 148 by decide), put_ne (show 149 ≠ 148 by decide), put_ne (show 0 ≠ 148 by decide), put_ne (show 1 ≠ 148 by decide)]
  exact ⟨w1, ⟨h1, h2⟩, w3, fun l hl => by rw [put_ne (by omega), put_ne (by omega)]; exact w4 l hl, fun k hk => by rw [put_ne (by omega), put_ne (by omega), put_ne (by omega)]; exact w5 k hk⟩
theorem douT_W {S : Nat → Nat} {l : Nat} (h0 : S 0 ≤ 8) (hW : WFW S) (hl : l < S 0) (h : douW S l = 0) : WFW (douT S l) := by
  have e : S 148 / 2 ^ l % 2 = 0 := by
    unfold douW at h
    rcases m2 (S 148 / 2 ^ l) with q | q
    · exact q
    · rw [if_pos q] at h; omega
  exact W_out hW (or_set l (by omega) _ hW.2.1.1 e).2 (set_lt _ h0 l hl _ hW.2.1.2 e)
theorem kinT_W {S : Nat → Nat} {l : Nat} (hW : WFW S) : WFW (kinT S l) := W_out hW (Nat.lt_of_le_of_lt (Nat.sub_le _ _) hW.2.1.1) (Nat.lt_of_le_of_lt (Nat.sub_le _ _) hW.2.1.2)
theorem filT_W {S : Nat → Nat} {l n : Nat} (hl : l < S 0) (h0 : S 0 ≤ 8) (hW : WFW S) (h : filW S l n = 0) : WFW (filT S l n) := by
  have hle : S (150 + l) + n ≤ 999 := by
    unfold filW at h
    rcases Nat.lt_or_ge 999 (S (150 + l) + n) with q | q
    · rw [if_neg (by omega)] at h; omega
    · exact q
  obtain ⟨w1, w2, w3, w4, w5⟩ := hW
  unfold WFW filT
  rw [put_ne (show 147 ≠ 150 + l by omega), put_ne (show 148 ≠ 150 + l by omega), put_ne (show 149 ≠ 150 + l by omega), put_ne (show 0 ≠ 150 + l by omega), put_ne (show 1 ≠ 150 + l by omega)]
  refine ⟨w1, w2, w3, fun k hk => ⟨?_, by rw [put_ne (by omega)]; exact (w4 k hk).2⟩, fun k hk => by rw [put_ne (by omega), put_ne (by omega), put_ne (by omega)]; exact w5 k hk⟩
  unfold put
  have := (w4 k hk).1
  split <;> omega
theorem shfT_W {S : Nat → Nat} {l n : Nat} (hl : l < S 0) (h0 : S 0 ≤ 8) (hC : WFC S) (hW : WFW S) : WFW (shfT S l n) := by
  have hp := perS_le (hC.2.2.2.1 l hl)
  have hm := Nat.mod_lt (S (158 + l) + n) (perS_pos S l)
  obtain ⟨w1, w2, w3, w4, w5⟩ := hW
  unfold WFW shfT
  rw [put_ne (show 147 ≠ 158 + l by omega), put_ne (show 148 ≠ 158 + l by omega), put_ne (show 149 ≠ 158 + l by omega), put_ne (show 0 ≠ 158 + l by omega), put_ne (show 1 ≠ 158 + l by omega)]
  refine ⟨w1, w2, w3, fun k hk => ⟨by rw [put_ne (by omega)]; exact (w4 k hk).1, ?_⟩, fun k hk => by rw [put_ne (by omega), put_ne (by omega), put_ne (by omega)]; exact w5 k hk⟩
  unfold put
  have := (w4 k hk).2
  split <;> omega
theorem steT_W {S : Nat → Nat} {k c : Nat} (hk : k < S 1) (h0 : S 0 ≤ 8) (h1 : S 1 ≤ 4) (hW : WFW S) (hc : c ≤ 8) : WFW (steT S k c) := by
  obtain ⟨w1, w2, w3, w4, w5⟩ := hW
  unfold WFW steT
  rw [put_ne (show 147 ≠ 174 + k by omega), put_ne (show 148 ≠ 174 + k by omega), put_ne (show 149 ≠ 174 + k by omega), put_ne (show 0 ≠ 174 + k by omega), put_ne (show 1 ≠ 174 + k by omega)]
  refine ⟨w1, w2, w3, fun l hl => by rw [put_ne (by omega), put_ne (by omega)]; exact w4 l hl, fun q hq => ⟨by rw [put_ne (by omega)]; exact (w5 q hq).1, by rw [put_ne (by omega)]; exact (w5 q hq).2.1, ?_⟩⟩
  unfold put
  have := (w5 q hq).2.2
  split <;> omega
theorem hazT_W {S : Nat → Nat} {n : Nat} (hW : WFW S) (h : 1 ≤ n ∧ n ≤ 30) : WFW (hazT S n) := by
  obtain ⟨w1, w2, w3, w4, w5⟩ := hW
  unfold WFW hazT
  rw [put_eq, put_ne (show 147 ≠ 149 by decide), put_ne (show 148 ≠ 149 by decide), put_ne (show 0 ≠ 149 by decide), put_ne (show 1 ≠ 149 by decide)]
  exact ⟨w1, w2, h, fun l hl => by rw [put_ne (by omega), put_ne (by omega)]; exact w4 l hl, fun k hk => by rw [put_ne (by omega), put_ne (by omega), put_ne (by omega)]; exact w5 k hk⟩
/-- what an act leaves: done or not -/
def actR (W : Nat) (T S : Nat → Nat) : Nat → Nat := if W = 0 then T else S
section ActsX
variable {S : Nat → Nat} {σ : St} {b : Nat}
theorem c_putOut {l : Nat} (hb : sh b = 6) (h0 : S 0 ≤ 8) (h1 : S 1 ≤ 4) (hW : WFW S) (hS : SRel σ b S) (hl : l < S 0) : ∃ σ', f_X6_putOut b (nI l) σ = some (nI (douW S l), σ') ∧ SRel σ' b (actR (douW S l) (douT S l) S) := by
  unfold f_X6_putOut
  rw [c_isOut hW.2.1.1 hS (by omega), bp_q, if_bI]
  unfold douW actR
  by_cases q : S 148 / 2 ^ l % 2 = 1
  · rw [if_pos q, if_pos (decide_eq_true q)]
    exact ⟨σ, rfl, by rw [if_neg (by decide)]; exact hS⟩
  · rw [if_neg q, if_neg (fun z => q (of_decide_eq_true z)), vl_q, vl_q, hS.2.2.1, (or_set l (by omega) _ hW.2.1.1 (by have := m2 (S 148 / 2 ^ l); omega)).1]
    exact ⟨_, rfl, by rw [if_pos rfl]; exact U_out hb hS h0 h1⟩
theorem c_relight {l : Nat} (hb : sh b = 6) (h0 : S 0 ≤ 8) (h1 : S 1 ≤ 4) (hW : WFW S) (hS : SRel σ b S) (hl : l < S 0) : ∃ σ', f_X6_relight b (nI l) σ = some (nI (kinW S l), σ') ∧ SRel σ' b (actR (kinW S l) (kinT S l) S) := by
  unfold f_X6_relight
  have ho := (hW.2.2.2.1 l hl).1
  rw [c_isOut hW.2.1.1 hS (by omega), bp_q, if_bI]
  unfold kinW actR
  by_cases q : S 148 / 2 ^ l % 2 = 1
  · rw [if_pos (decide_eq_true q), ald_q (by omega) (by decide), (hS.2.2.2.1 l hl).1, if_eq0 (by omega), if_neg (show ¬ S 148 / 2 ^ l % 2 = 0 by omega)]
    by_cases z : S (150 + l) = 0
    · rw [if_pos z, if_pos z]
      exact ⟨σ, rfl, by rw [if_neg (by decide)]; exact hS⟩
    · rw [if_neg z, if_neg z, vl_q, vl_q, hS.2.2.1, and_clr l (by omega) _ hW.2.1.1 q]
      exact ⟨_, rfl, by rw [if_pos rfl]; exact U_out hb hS h0 h1⟩
  · rw [if_neg (fun z => q (of_decide_eq_true z)), if_pos (by have := m2 (S 148 / 2 ^ l); omega)]
    exact ⟨σ, rfl, by rw [if_neg (by decide)]; exact hS⟩
theorem c_pourInto {l n : Nat} (hb : sh b = 6) (h0 : S 0 ≤ 8) (h1 : S 1 ≤ 4) (hW : WFW S) (hS : SRel σ b S) (hl : l < S 0) (hn : n ≤ 1000) : ∃ σ', f_X6_pourInto b (nI l) (nI n) σ = some (nI (filW S l n), σ') ∧ SRel σ' b (actR (filW S l n) (filT S l n) S) := by
  unfold f_X6_pourInto
  have ho := (hW.2.2.2.1 l hl).1
  rw [ald_q (by omega) (by decide), (hS.2.2.2.1 l hl).1, nI_addq, if_leq (by omega) (by decide)]
  unfold filW actR
  by_cases q : S (150 + l) + n ≤ 999
  · rw [if_pos q, if_pos q, ald_q (by omega) (by decide), (hS.2.2.2.1 l hl).1, nI_addq, ald_q (by omega) (by decide)]
    exact ⟨_, rfl, by rw [if_pos rfl]; exact U_oil hb hS h0 h1 (by omega)⟩
  · rw [if_neg q, if_neg q]
    exact ⟨σ, rfl, by rw [if_neg (by decide)]; exact hS⟩
theorem c_moveOn {l n : Nat} (hb : sh b = 6) (hC : WFC S) (hW : WFW S) (hM : CRel σ 3 4 5 S) (hS : SRel σ b S) (hl : l < S 0) (hn : n ≤ 1000) : ∃ σ', f_X6_moveOn b (nI l) (nI n) σ = some (nI (shfW S l), σ') ∧ SRel σ' b (actR (shfW S l) (shfT S l n) S) := by
  have c1 := hC.1
  have c2 := hC.2.1
  have hp := perS_le (hC.2.2.2.1 l hl)
  have h6 := (hC.2.2.2.1 l hl).2.2.2.2.2.1
  have hs := (hW.2.2.2.1 l hl).2
  obtain ⟨r1, r2, r3, r4, r5, r6, r8, r9, r10, r11⟩ := hM.2.2.2.1 l hl
  unfold f_X6_moveOn
  rw [ald_q (by omega) (by decide), vl_q, r9, if_eq0 (by omega)]
  unfold shfW actR
  by_cases q : S (43 + l) = 0
  · rw [if_pos q, if_pos q]
    exact ⟨σ, rfl, by rw [if_neg (by decide)]; exact hS⟩
  · rw [if_neg q, if_neg q, ald_q (by omega) (by decide), ald_q (by omega) (by decide), vl_q, r10, (hS.2.2.2.1 l hl).2, nI_addq, c_remainder (by omega) (perS_pos S l) (by omega), bp_q, ald_q (by omega) (by decide)]
    exact ⟨_, rfl, by rw [if_pos rfl]; exact U_shf hb hS c1 c2 (by omega)⟩
theorem c_turn {k c : Nat} (hb : sh b = 6) (h0 : S 0 ≤ 8) (h1 : S 1 ≤ 4) (hW : WFW S) (hS : SRel σ b S) (hk : k < S 1) (hc : c ≤ 1000) : ∃ σ', f_X6_turn b (nI k) (nI c) σ = some (nI (steW S k c), σ') ∧ SRel σ' b (actR (steW S k c) (steT S k c) S) := by
  unfold f_X6_turn
  have w5 := hW.2.2.2.2 k hk
  rw [ald_q (by omega) (by decide), (hS.2.2.2.2 k hk).2.2, if_eqq (by omega) (by omega)]
  unfold steW actR
  by_cases q : S (174 + k) = c
  · rw [if_pos q, if_pos q]
    exact ⟨σ, rfl, by rw [if_neg (by decide)]; exact hS⟩
  · rw [if_neg q, if_neg q, ald_q (by omega) (by decide)]
    exact ⟨_, rfl, by rw [if_pos rfl]; exact U_crs hb hS h0 h1 (by omega)⟩
theorem c_setHaze {n : Nat} (hb : sh b = 6) (h0 : S 0 ≤ 8) (h1 : S 1 ≤ 4) (hW : WFW S) (hS : SRel σ b S) (hn : n ≤ 1000) : ∃ σ', f_X6_setHaze b (nI n) σ = some (nI (hazW S n), σ') ∧ SRel σ' b (actR (hazW S n) (hazT S n) S) := by
  unfold f_X6_setHaze
  have w3 := hW.2.2.1
  rw [vl_q, hS.2.1, if_eqq (by omega) (by omega)]
  unfold hazW actR
  by_cases q : S 149 = n
  · rw [if_pos q, if_pos q]
    exact ⟨σ, rfl, by rw [if_neg (by decide)]; exact hS⟩
  · rw [if_neg q, if_neg q, vl_q]
    exact ⟨_, rfl, by rw [if_pos rfl]; exact U_haz hb hS h0 h1⟩
end ActsX
