/-! of which lights a leaf is so -/
def msS (S : Nat → Nat) (K l : Nat) : Nat := if K = 8 then S (150 + l) else if K = 9 then perS S l else if K = 10 then S (19 + l) else l
def cmpB (u a v : Nat) : Bool := if u = 60 then decide (a < v) else if u = 61 then decide (a = v) else decide (v < a)
def lfT (S : Nat → Nat) (K u v l : Nat) : Bool := if K = 3 then decide (S 148 / 2 ^ l % 2 = 1) else if K = 4 then shineS S l else if K = 5 then decide (S (43 + l) = 0) else if K = 6 then (decide (l = v) || alkS S l v) else if K = 7 then decide (seesS S v / 2 ^ l % 2 = 1) else cmpB u (msS S K l) v
theorem msS_lt {S : Nat → Nat} {K l : Nat} (hC : WFC S) (hW : WFW S) (hl : l < S 0) : msS S K l ≤ 999 := by
  have w := hC.2.2.2.1 l hl
  have c1 := hC.1
  have p := perS_le w
  unfold msS
  split
  · exact (hW.2.2.2.1 l hl).1
  · split
    · omega
    · split
      · have := w.2.2.1; omega
      · omega
theorem m_leaf {S : Nat → Nat} {τ : St} {N K u v l : Nat} (hN : 1000 ≤ N) (hR : RS S τ) (hC : WFC S) (hW : WFW S) (hl : l < S 0) (hK : 3 ≤ K ∧ K ≤ 11) (hv : v ≤ 999) (k6 : K = 6 → v < S 0) (k7 : K = 7 → v < S 1) (k8 : 8 ≤ K → 60 ≤ u ∧ u ≤ 62) (hu : u ≤ 999) : f_X12_isLeaf N (nI l) (nI (K - 3)) (nI u) (nI v) τ = some (bI (lfT S K u v l)) := by
  have c1 := hC.1
  have w := hC.2.2.2.1 l hl
  have ms := msS_lt (K := K) hC hW hl
  unfold f_X12_isLeaf lfT
  rw [if_eqq (a := K - 3) (b := 0) (by omega) (by decide), if_eqq (a := K - 3) (b := 1) (by omega) (by decide), if_eqq (a := K - 3) (b := 2) (by omega) (by decide), if_eqq (a := K - 3) (b := 3) (by omega) (by decide), if_eqq (a := K - 3) (b := 4) (by omega) (by decide)]
  by_cases q3 : K = 3
  · rw [if_pos (show K - 3 = 0 by omega), if_pos q3, ald_q (by decide) (by decide), hR 148 (by decide), m_bitOf hW.2.1.1 (by omega), bp_q, rz_q]
  rw [if_neg (show ¬ K - 3 = 0 by omega), if_neg q3]
  by_cases q4 : K = 4
  · rw [if_pos (show K - 3 = 1 by omega), if_pos q4, m_isShining (by omega) hR (by omega) w hW.1 (hW.2.2.2.1 l hl).2 hW.2.1.1 (hW.2.2.2.1 l hl).1, bp_q, rz_q]
  rw [if_neg (show ¬ K - 3 = 1 by omega), if_neg q4]
  by_cases q5 : K = 5
  · rw [if_pos (show K - 3 = 2 by omega), if_pos q5, nI_addq, ald_q (by omega) (by decide), hR _ (by omega), if_eq0 (by have := w.2.2.2.2.2.1; omega)]
    by_cases y : S (43 + l) = 0
    · rw [if_pos y, decide_eq_true y]; rfl
    · rw [if_neg y, decide_eq_false y]; rfl
  rw [if_neg (show ¬ K - 3 = 2 by omega), if_neg q5]
  by_cases q6 : K = 6
  · have v8 := k6 q6
    rw [if_pos (show K - 3 = 3 by omega), if_pos q6, if_eqq (by omega) (by omega), m_isAlike (by omega) hR (by omega) (by omega) w (hC.2.2.2.1 v v8), bp_q, if_bI]
    by_cases y : l = v
    · rw [if_pos y, decide_eq_true y]; rfl
    · rw [if_neg y, decide_eq_false y, decide_eq_true y, Bool.true_and, Bool.false_or]
      by_cases z : alkS S l v = true
      · rw [if_pos z, z]; rfl
      · rw [if_neg z, Bool.eq_false_iff.mpr z]; rfl
  rw [if_neg (show ¬ K - 3 = 3 by omega), if_neg q6]
  by_cases q7 : K = 7
  · rw [if_pos (show K - 3 = 4 by omega), if_pos q7, m_seenBy (by omega) hR hC hW (k7 q7), bp_q, m_bitOf (show seesS S v < 256 from Nat.lt_of_le_of_lt Nat.and_le_left (bset_lt8 _ c1)) (by omega), bp_q, rz_q]
  rw [if_neg (show ¬ K - 3 = 4 by omega), if_neg q7]
  have u6 := k8 (by omega)
  have main : ∀ a, a ≤ 999 → (if nI u = nI 60 then (if nI v ≤ nI a then some (nI 0) else some (nI 1)) else if nI u = nI 61 then (if nI a = nI v then some (nI 1) else some (nI 0)) else if nI a ≤ nI v then some (nI 0) else some (nI 1)) = some (bI (cmpB u a v)) := fun a ha => by
    rw [if_eqq (by omega) (by decide), if_eqq (by omega) (by decide), if_leq (by omega) (by omega), if_eqq (by omega) (by omega), if_leq (by omega) (by omega)]
    unfold cmpB
    by_cases y : u = 60
    · rw [if_pos y, if_pos y]
      by_cases z : v ≤ a
      · rw [if_pos z, decide_eq_false (by omega)]; rfl
      · rw [if_neg z, decide_eq_true (by omega)]; rfl
    · rw [if_neg y, if_neg y]
      by_cases y2 : u = 61
      · rw [if_pos y2, if_pos y2]
        by_cases z : a = v
        · rw [if_pos z, decide_eq_true z]; rfl
        · rw [if_neg z, decide_eq_false z]; rfl
      · rw [if_neg y2, if_neg y2]
        by_cases z : a ≤ v
        · rw [if_pos z, decide_eq_false (by omega)]; rfl
        · rw [if_neg z, decide_eq_true (by omega)]; rfl
  refine (jn_q _ _).trans ?_
  rw [if_eqq (a := K - 3) (b := 5) (by omega) (by decide), if_eqq (a := K - 3) (b := 6) (by omega) (by decide), if_eqq (a := K - 3) (b := 7) (by omega) (by decide)]
  have e := main _ ms
  by_cases q8 : K = 8
  · have em : msS S K l = S (150 + l) := by unfold msS; rw [if_pos q8]
    rw [if_pos (show K - 3 = 5 by omega), nI_addq, ald_q (by omega) (by decide), hR _ (by omega)]
    rw [em] at e ⊢
    exact e
  rw [if_neg (show ¬ K - 3 = 5 by omega)]
  by_cases q9 : K = 9
  · have em : msS S K l = perS S l := by unfold msS; rw [if_neg q8, if_pos q9]
    rw [if_pos (show K - 3 = 6 by omega), m_periodOf (by omega) hR (by omega) w, bp_q]
    rw [em] at e ⊢
    exact e
  rw [if_neg (show ¬ K - 3 = 6 by omega)]
  by_cases q10 : K = 10
  · have em : msS S K l = S (19 + l) := by unfold msS; rw [if_neg q8, if_neg q9, if_pos q10]
    rw [if_pos (show K - 3 = 7 by omega), nI_addq, ald_q (by omega) (by decide), hR _ (by omega)]
    rw [em] at e ⊢
    exact e
  · have em : msS S K l = l := by unfold msS; rw [if_neg q8, if_neg q9, if_neg q10]
    rw [if_neg (show ¬ K - 3 = 7 by omega)]
    rw [em] at e ⊢
    exact e
