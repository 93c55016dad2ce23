/-! the model's truths of one light -/
def btA (l x : Nat) : Bool := decide (x / 2 ^ l % 2 = 1)
theorem btA_t (l x : Nat) : btA l x = x.testBit l := by
  unfold btA
  rw [Nat.testBit_eq_decide_div_mod_eq]
theorem btA_and (l a b : Nat) : btA l (a &&& b) = (btA l a && btA l b) := by rw [btA_t, btA_t, btA_t, Nat.testBit_and]
theorem btA_or (l a b : Nat) : btA l (a ||| b) = (btA l a || btA l b) := by rw [btA_t, btA_t, btA_t, Nat.testBit_or]
theorem btA_not : ∀ n, n < 9 → ∀ x, x < 2 ^ n → ∀ l, l < n → btA l (2 ^ n - 1 - x) = !(btA l x) := by decide +kernel
theorem btA_set (p : Nat → Bool) {n l : Nat} (hl : l < n) : btA l (bset p n) = p l := by
  unfold btA
  rw [bset_bit]
  by_cases y : p l = true
  · rw [if_pos ⟨hl, y⟩, y]; rfl
  · rw [if_neg (fun w => y w.2), Bool.eq_false_iff.mpr y]; rfl
def CdM (τ : St) (S : Nat → Nat) (c : Nat) (K U V : Nat → Nat) : Prop := ∀ i, i < c → K i ≤ 11 ∧ U i ≤ 999 ∧ V i ≤ 999 ∧ (K i = 6 → V i < S 0) ∧ (K i = 7 → V i < S 1) ∧ (8 ≤ K i → 60 ≤ U i ∧ U i ≤ 62) ∧ τ.1 208 (179 + 3 * i) = nI (mKd (K i)) ∧ τ.1 208 (179 + 3 * i + 1) = nI (U i) ∧ τ.1 208 (179 + 3 * i + 2) = nI (V i)
section Tru
variable {S : Nat → Nat} {τ : St} {N : Nat}
theorem m_saidL {l c : Nat} {K U V : Nat → Nat} {k5 : St → Option (Int32 × St)} (hN : 1000 ≤ N) (hR : RS S τ) (hC : WFC S) (hW : WFW S) (hl : l < S 0) (h178 : τ.1 208 178 = nI c) (hc : c ≤ 40) (hQ : CdM τ S c K U V) (hr : rpn K c 1) : ∀ F i (s : St), i ≤ c → c - i < F → (∀ b, b ≠ 221 → s.1 b = τ.1 b) → s.2 = τ.2 → (∀ j, j < Ht K i → s.1 221 j = bI (btA l (evP S K U V i j))) → ∃ s', f_X12_isSaid_L4 N (nI l) k5 F (nI (Ht K i)) (nI i) s = k5 s' ∧ (∀ b, b ≠ 221 → s'.1 b = τ.1 b) ∧ s'.2 = τ.2 ∧ ∀ j, j < Ht K c → s'.1 221 j = bI (btA l (evP S K U V c j)) := by
  have c1 := hC.1
  intro F
  induction F with
  | zero => intro i s _ h; omega
  | succ F ih =>
    intro i s hi hF ho h2 hp
    have e3 : nI 3 * nI i = nI (3 * i) := by
      have : ∀ c, c < 45 → nI 3 * nI c = nI (3 * c) := by decide +kernel
      exact this i (by omega)
    rw [f_X12_isSaid_L4, ald_q (by decide) (by decide), ho 208 (by decide), h178, if_leq (by omega) (by omega)]
    by_cases z : c ≤ i
    · rw [if_pos z]
      obtain rfl : i = c := by omega
      exact ⟨s, rfl, ho, h2, hp⟩
    · obtain ⟨k11, u9, v9, k6', k7', k8', z1, z2, z3⟩ := hQ i (by omega)
      obtain ⟨hh1, hh2⟩ := (rpn_h hr).2 i (by omega)
      have hle := Ht_le K i
      have Rs : RS S s := RS_o hR (fun j => by rw [ho 208 (by decide)])
      have nxt : ∀ (P v : Nat) (w : Int32), P < 40 → w &&& 1 = bI (btA l v) → evP S K U V (i + 1) = put (evP S K U V i) P v → (∀ j, j < Ht K (i + 1) → j ≠ P → j < Ht K i) → ∃ s', (vl (nI i + nI 1) fun v15 => f_X12_isSaid_L4 N (nI l) k5 F (nI (Ht K (i + 1))) v15 (sI s 221 P (w &&& 1))) = k5 s' ∧ (∀ b, b ≠ 221 → s'.1 b = τ.1 b) ∧ s'.2 = τ.2 ∧ ∀ j, j < Ht K c → s'.1 221 j = bI (btA l (evP S K U V c j)) := fun P v w hP hw he hm => by
        rw [vl_q, nI_addq, hw]
        refine ih (i + 1) _ (by omega) (by omega) (fun b hb => (sI_ne hb).trans (ho b hb)) h2 (fun j hj => ?_)
        rw [sI1, if_pos rfl, he]
        by_cases y : j = P
        · rw [if_pos y, y, put_eq]
        · rw [if_neg y, put_ne y]; exact hp j (hm j hj y)
      rw [if_neg z, e3, nI_addq, vl_q, ald_q (by omega) (by decide), z1]
      have mk : (K i = 2 → mKd (K i) = 20) ∧ (K i = 0 → mKd (K i) = 21) ∧ (K i = 1 → mKd (K i) = 22) ∧ (3 ≤ K i → mKd (K i) = K i - 3) := by
        unfold mKd
        refine ⟨fun h => by rw [h]; rfl, fun h => by rw [h]; rfl, fun h => by rw [h]; rfl, fun h => by rw [if_neg (by omega), if_neg (by omega), if_neg (by omega)]⟩
      refine ex_eq (jn_q _ _) ?_
      have m25 : mKd (K i) < 30 := by
        rcases (show K i = 0 ∨ K i = 1 ∨ K i = 2 ∨ 3 ≤ K i by omega) with w | w | w | w
        · rw [mk.2.1 w]; decide
        · rw [mk.2.2.1 w]; decide
        · rw [mk.1 w]; decide
        · rw [mk.2.2.2 w]; omega
      rw [if_eqq (a := mKd (K i)) (b := 20) (by omega) (by decide)]
      by_cases q2 : K i = 2
      · have h1 := hh2 q2
        have el := evP_lt S K U V i (Ht K i - 1)
        have hs : Ht K (i + 1) = Ht K i := by rw [Ht_s, if_neg (by omega), if_pos q2]
        have ep : evP S K U V (i + 1) = put (evP S K U V i) (Ht K i - 1) (2 ^ S 0 - 1 - evP S K U V i (Ht K i - 1)) := by
          show (if K i = 0 then _ else if K i = 1 then _ else if K i = 2 then _ else _) = _
          rw [if_neg (by omega), if_neg (by omega), if_pos q2]
        have bn := btA_not (S 0) (by omega) _ el l hl
        have go := fun (w : Int32) (hw : w &&& 1 = bI (btA l (2 ^ S 0 - 1 - evP S K U V i (Ht K i - 1)))) => nxt (Ht K i - 1) _ w (by omega) hw ep (fun j _ _ => by omega)
        rw [hs] at go
        rw [if_pos (mk.1 q2), nI_sub1 h1 (by omega), ald_q (by omega) (by decide), hp _ (by omega)]
        refine ex_eq (jn_q _ _) ?_
        rw [if_bI]
        by_cases y : btA l (evP S K U V i (Ht K i - 1)) = true
        · rw [if_pos y]
          dsimp only
          rw [ald_q (by omega) (by decide)]
          exact go (nI 0) (by rw [bn, y]; rfl)
        · rw [if_neg y]
          dsimp only
          rw [ald_q (by omega) (by decide)]
          exact go (nI 1) (by rw [bn, Bool.eq_false_iff.mpr y]; rfl)
      · rw [if_neg (show ¬ mKd (K i) = 20 by
          rcases (show K i = 0 ∨ K i = 1 ∨ 3 ≤ K i by omega) with w | w | w
          · rw [mk.2.1 w]; decide
          · rw [mk.2.2.1 w]; decide
          · rw [mk.2.2.2 w]; omega), ald_q (by omega) (by decide), z1]
        refine ex_eq (jn_q _ _) ?_
        rw [if_eqq (a := mKd (K i)) (b := 21) (by omega) (by decide)]
        by_cases q0 : K i = 0
        · have h1 := hh1 (by omega)
          have hs : Ht K (i + 1) = Ht K i - 1 := by rw [Ht_s, if_pos (by omega)]
          have ep : evP S K U V (i + 1) = put (evP S K U V i) (Ht K i - 2) (evP S K U V i (Ht K i - 2) &&& evP S K U V i (Ht K i - 1)) := by
            show (if K i = 0 then _ else if K i = 1 then _ else if K i = 2 then _ else _) = _
            rw [if_pos q0]
          have bn := btA_and l (evP S K U V i (Ht K i - 2)) (evP S K U V i (Ht K i - 1))
          have go := fun (w : Int32) (hw : w &&& 1 = bI (btA l (evP S K U V i (Ht K i - 2) &&& evP S K U V i (Ht K i - 1)))) => nxt (Ht K i - 2) _ w (by omega) hw ep (fun j _ _ => by omega)
          rw [hs] at go
          rw [if_pos (mk.2.1 q0), vl_q, dn1 _ (by omega) (by omega), ald_q (by omega) (by decide), z1]
          refine ex_eq (jn_q _ _) ?_
          rw [if_eqq (a := mKd (K i)) (b := 21) (by omega) (by decide), if_pos (mk.2.1 q0), nI_sub1 (by omega) (by omega), show Ht K i - 1 - 1 = Ht K i - 2 by omega, ald_q (by omega) (by decide), hp _ (by omega)]
          refine ex_eq (jn_q _ _) ?_
          rw [if_bI]
          by_cases y : btA l (evP S K U V i (Ht K i - 2)) = true
          · rw [if_pos y, ald_q (by omega) (by decide), hp _ (by omega), if_bI]
            by_cases y2 : btA l (evP S K U V i (Ht K i - 1)) = true
            · rw [if_pos y2]
              dsimp only
              rw [ald_q (by omega) (by decide)]
              exact go (nI 1) (by rw [bn, y, y2]; rfl)
            · rw [if_neg y2]
              dsimp only
              rw [ald_q (by omega) (by decide)]
              exact go (nI 0) (by rw [bn, y, Bool.eq_false_iff.mpr y2]; rfl)
          · rw [if_neg y]
            dsimp only
            rw [ald_q (by omega) (by decide)]
            exact go (nI 0) (by rw [bn, Bool.eq_false_iff.mpr y, Bool.false_and]; rfl)
        · rw [if_neg (show ¬ mKd (K i) = 21 by
            rcases (show K i = 1 ∨ 3 ≤ K i by omega) with w | w
            · rw [mk.2.2.1 w]; decide
            · rw [mk.2.2.2 w]; omega), ald_q (by omega) (by decide), z1, if_eqq (a := mKd (K i)) (b := 22) (by omega) (by decide)]
          by_cases q1 : K i = 1
          · have h1 := hh1 (by omega)
            have hs : Ht K (i + 1) = Ht K i - 1 := by rw [Ht_s, if_pos (by omega)]
            have ep : evP S K U V (i + 1) = put (evP S K U V i) (Ht K i - 2) (evP S K U V i (Ht K i - 2) ||| evP S K U V i (Ht K i - 1)) := by
              show (if K i = 0 then _ else if K i = 1 then _ else if K i = 2 then _ else _) = _
              rw [if_neg q0, if_pos q1]
            have bn := btA_or l (evP S K U V i (Ht K i - 2)) (evP S K U V i (Ht K i - 1))
            have go := fun (w : Int32) (hw : w &&& 1 = bI (btA l (evP S K U V i (Ht K i - 2) ||| evP S K U V i (Ht K i - 1)))) => nxt (Ht K i - 2) _ w (by omega) hw ep (fun j _ _ => by omega)
            rw [hs] at go
            rw [if_pos (mk.2.2.1 q1), vl_q, dn1 _ (by omega) (by omega), ald_q (by omega) (by decide), z1]
            refine ex_eq (jn_q _ _) ?_
            rw [if_eqq (a := mKd (K i)) (b := 21) (by omega) (by decide), if_neg (by rw [mk.2.2.1 q1]; decide), nI_sub1 (by omega) (by omega), show Ht K i - 1 - 1 = Ht K i - 2 by omega, ald_q (by omega) (by decide), hp _ (by omega)]
            refine ex_eq (jn_q _ _) ?_
            rw [if_bI]
            by_cases y : btA l (evP S K U V i (Ht K i - 2)) = true
            · rw [if_pos y]
              dsimp only
              rw [ald_q (by omega) (by decide)]
              exact go (nI 1) (by rw [bn, y, Bool.true_or]; rfl)
            · rw [if_neg y, ald_q (by omega) (by decide), hp _ (by omega), if_bI]
              by_cases y2 : btA l (evP S K U V i (Ht K i - 1)) = true
              · rw [if_pos y2]
                dsimp only
                rw [ald_q (by omega) (by decide)]
                exact go (nI 1) (by rw [bn, y2, Bool.or_true]; rfl)
              · rw [if_neg y2]
                dsimp only
                rw [ald_q (by omega) (by decide)]
                exact go (nI 0) (by rw [bn, Bool.eq_false_iff.mpr y, Bool.eq_false_iff.mpr y2]; rfl)
          · have m3 := mk.2.2.2 (by omega)
            have hs : Ht K (i + 1) = Ht K i + 1 := by rw [Ht_s, if_neg (by omega), if_neg q2]
            have ep : evP S K U V (i + 1) = put (evP S K U V i) (Ht K i) (bset (lfT S (K i) (U i) (V i)) (S 0)) := by
              show (if K i = 0 then _ else if K i = 1 then _ else if K i = 2 then _ else _) = _
              rw [if_neg q0, if_neg q1, if_neg q2]
            have bn := btA_set (lfT S (K i) (U i) (V i)) hl
            have := nxt (Ht K i) _ (bI (lfT S (K i) (U i) (V i) l)) (by omega) (by rw [bn, bI_and1]) ep (fun j _ _ => by omega)
            rw [hs, nI_addq] at this
            rw [if_neg (by rw [m3]; omega), ald_q (by omega) (by decide), z1, nI_addq, ald_q (by omega) (by decide), z2, nI_addq, ald_q (by omega) (by decide), z3, m3, m_leaf hN Rs hC hW hl ⟨by omega, k11⟩ v9 k6' k7' k8' u9, bp_q, ald_q (by omega) (by decide), vl_q, nI_addq, nI_addq]
            exact this
end Tru
