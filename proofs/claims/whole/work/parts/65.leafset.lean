/-! the class's set of a leaf -/
theorem bset_self : ∀ n, n < 9 → ∀ a, a < 2 ^ n → bset (fun l => decide (a / 2 ^ l % 2 = 1)) n = a := by decide +kernel
theorem bset_x {a b : Nat} (ha : a < 256) (hb : b < 256) (h : ∀ l, l < 8 → a / 2 ^ l % 2 = b / 2 ^ l % 2) : a = b := by
  rw [← bset_self 8 (by decide) a ha, ← bset_self 8 (by decide) b hb]
  exact bset_cong (fun l hl => by rw [h l hl])
section Lfs
variable {S : Nat → Nat} {σ : St} {N : Nat}
theorem or_step (p : Nat → Bool) {l : Nat} (hl : l < 8) (h : p l = true) : nI (bset p l) ||| (nI 1 <<< (nI l &&& 31)) = nI (bset p (l + 1)) := by
  rw [or_b p hl (Nat.le_refl _)]
  simp only [bset, h, if_true]
theorem no_step (p : Nat → Bool) {l : Nat} (h : ¬ p l = true) : bset p l = bset p (l + 1) := by
  simp only [bset, if_neg h, Nat.add_zero]
theorem c_fxdL (hM : CRel σ 3 4 5 S) (hC : WFC S) : ∀ F l, l ≤ S 0 → S 0 - l < F → f_X1_fixedLights_L4 N 3 σ F (nI (bset (fun l => decide (S (43 + l) = 0)) l)) (nI l) = some (nI (bset (fun l => decide (S (43 + l) = 0)) (S 0))) := by
  have c1 := hC.1
  intro F
  induction F with
  | zero => intro l _ h; omega
  | succ F ih =>
    intro l hl hF
    rw [f_X1_fixedLights_L4, vl_q, hM.1, if_leq (by omega) (by omega)]
    by_cases z : S 0 ≤ l
    · rw [if_pos z]
      obtain rfl : l = S 0 := by omega
      rfl
    · have r := (hM.2.2.2.1 l (by omega)).2.2.2.2.2.2.2.1
      have w := (hC.2.2.2.1 l (by omega)).2.2.2.2.2.1
      rw [if_neg z, ald_q (by omega) (by decide), d3.1, vl_q, r, jn_q, if_eq0 (by omega)]
      by_cases y : S (43 + l) = 0
      · rw [if_pos y, vl_q]
        dsimp only
        rw [vl_q, nI_addq, or_step _ (by omega) (decide_eq_true y)]
        exact ih (l + 1) (by omega) (by omega)
      · rw [if_neg y]
        dsimp only
        rw [vl_q, nI_addq, no_step _ (by rw [decide_eq_false y]; decide)]
        exact ih (l + 1) (by omega) (by omega)
theorem c_msOf {K l : Nat} (hM : CRel σ 3 4 5 S) (hS : SRel σ 49 S) (hC : WFC S) (hK : 8 ≤ K ∧ K ≤ 11) (hl : l < S 0) : f_X7_measureOf 49 (nI K) (nI l) σ = some (nI (msS S K l)) := by
  have c1 := hC.1
  have r := hM.2.2.2.1 l hl
  unfold f_X7_measureOf msS
  rw [if_eqq (by omega) (by decide), if_eqq (by omega) (by decide), if_eqq (by omega) (by decide)]
  by_cases q8 : K = 8
  · rw [if_pos q8, if_pos q8, ald_q (by omega) (by decide), (hS.2.2.2.1 l hl).1]
  · rw [if_neg q8, if_neg q8]
    by_cases q9 : K = 9
    · rw [if_pos q9, if_pos q9, ald_q (by omega) (by decide), vl_q, r.2.2.2.2.2.2.2.2.1]
    · rw [if_neg q9, if_neg q9]
      by_cases q10 : K = 10
      · rw [if_pos q10, if_pos q10, ald_q (by omega) (by decide), vl_q, r.2.2.1]
      · rw [if_neg q10, if_neg q10]
theorem c_mesL {K u v i : Nat} (hM : CRel σ 3 4 5 S) (hS : SRel σ 49 S) (hC : WFC S) (hW : WFW S) (hK : 8 ≤ K ∧ K ≤ 11) (hu : 60 ≤ u ∧ u ≤ 62) (hv : v ≤ 999) (hi : i < 40) (k1 : σ.1 62 i = nI K) (k2 : σ.1 63 i = nI u) (k3 : σ.1 64 i = nI v) : ∀ F l, l ≤ S 0 → S 0 - l < F → f_X7_measuredSet_L5 N 61 49 (nI i) σ F (nI (bset (fun l => cmpB u (msS S K l) v) l)) (nI l) = some (nI (bset (fun l => cmpB u (msS S K l) v) (S 0))) := by
  have c1 := hC.1
  intro F
  induction F with
  | zero => intro l _ h; omega
  | succ F ih =>
    intro l hl hF
    rw [f_X7_measuredSet_L5, vl_q, hM.1, if_leq (by omega) (by omega)]
    by_cases z : S 0 ≤ l
    · rw [if_pos z]
      obtain rfl : l = S 0 := by omega
      rfl
    · have ms := msS_lt (K := K) hC hW (show l < S 0 by omega)
      have st : ∀ w : Bool, w = cmpB u (msS S K l) v → (jn (fun (v14 : Int32) => vl (nI l + nI 1) fun v16 => f_X7_measuredSet_L5 N 61 49 (nI i) σ F v14 v16) fun j15 => if bI w = 0 then j15 (nI (bset (fun l => cmpB u (msS S K l) v) l)) else vl (nI (bset (fun l => cmpB u (msS S K l) v) l) ||| ((nI 1) <<< (nI l &&& 31))) fun v17 => j15 v17) = some (nI (bset (fun l => cmpB u (msS S K l) v) (S 0))) := fun w hw => by
        refine (jn_q _ _).trans ?_
        rw [if_bI]
        by_cases y : w = true
        · rw [if_pos y, vl_q]
          dsimp only
          rw [vl_q, nI_addq, or_step _ (by omega) (by rw [← hw]; exact y)]
          exact ih (l + 1) (by omega) (by omega)
        · rw [if_neg y]
          dsimp only
          rw [vl_q, nI_addq, no_step _ (by rw [← hw]; exact y)]
          exact ih (l + 1) (by omega) (by omega)
      have s0 := fun (h : false = cmpB u (msS S K l) v) => st false h
      have s1 := fun (h : true = cmpB u (msS S K l) v) => st true h
      rw [if_neg z, d61.1, d61.2.1, d61.2.2, ald_q hi (by decide), k1, c_msOf hM hS hC hK (by omega), bp_q, ald_q hi (by decide), k2]
      refine (jn_q _ _).trans ?_
      rw [ald_q hi (by decide), k3, ald_q hi (by decide), k2, ald_q hi (by decide), k3, ald_q hi (by decide), k3, if_eqq (by omega) (by decide), if_leq (by omega) (by omega), if_eqq (by omega) (by decide), if_leq (by omega) (by omega), if_eqq (by omega) (by omega)]
      by_cases y0 : u = 60
      · rw [if_pos y0]
        by_cases y : v ≤ msS S K l
        · rw [if_pos y]; exact s0 (by unfold cmpB; rw [if_pos y0, decide_eq_false (by omega)])
        · rw [if_neg y]; exact s1 (by unfold cmpB; rw [if_pos y0, decide_eq_true (by omega)])
      · rw [if_neg y0]
        by_cases y2 : u = 62
        · rw [if_pos y2]
          by_cases y : msS S K l ≤ v
          · rw [if_pos y]; exact s0 (by unfold cmpB; rw [if_neg y0, if_neg (by omega), decide_eq_false (by omega)])
          · rw [if_neg y]; exact s1 (by unfold cmpB; rw [if_neg y0, if_neg (by omega), decide_eq_true (by omega)])
        · rw [if_neg y2]
          by_cases y : msS S K l = v
          · rw [if_pos y]; exact s1 (by unfold cmpB; rw [if_neg y0, if_pos (by omega), decide_eq_true y])
          · rw [if_neg y]; exact s0 (by unfold cmpB; rw [if_neg y0, if_pos (by omega), decide_eq_false y])
theorem c_leafSet {K u v i : Nat} (hN : 1000 ≤ N) (hM : CRel σ 3 4 5 S) (hA : ARel σ 4 S) (hS : SRel σ 49 S) (hC : WFC S) (hW : WFW S) (hK : 3 ≤ K ∧ K ≤ 11) (hv : v ≤ 999) (k6 : K = 6 → v < S 0) (k7 : K = 7 → v < S 1) (k8 : 8 ≤ K → 60 ≤ u ∧ u ≤ 62) (hi : i < 40) (z1 : σ.1 62 i = nI K) (z2 : σ.1 63 i = nI u) (z3 : σ.1 64 i = nI v) : f_X7_plainSet N 61 49 (nI i) σ = some (nI (bset (lfT S K u v) (S 0))) := by
  have c1 := hC.1
  unfold f_X7_plainSet
  rw [d61.1, d61.2.2, ald_q hi (by decide), z1, if_eqq (a := K) (b := 3) (by omega) (by decide), if_eqq (a := K) (b := 4) (by omega) (by decide), if_eqq (a := K) (b := 5) (by omega) (by decide), if_eqq (a := K) (b := 6) (by omega) (by decide), if_eqq (a := K) (b := 7) (by omega) (by decide)]
  by_cases q3 : K = 3
  · rw [if_pos q3, vl_q, hS.2.2.1]
    congr 2
    rw [bset_cong (p := lfT S K u v) (q := fun l => decide (S 148 / 2 ^ l % 2 = 1)) (fun l _ => by unfold lfT; rw [if_pos q3])]
    exact (bset_self _ (by omega) _ hW.2.1.2).symm
  rw [if_neg q3]
  by_cases q4 : K = 4
  · rw [if_pos q4, c_shiningOnes (by omega) hC hW hM hS, bp_q]
    congr 2
    exact bset_cong (fun l _ => by unfold lfT; rw [if_neg q3, if_pos q4])
  rw [if_neg q4]
  by_cases q5 : K = 5
  · have f := c_fxdL (N := N) hM hC N 0 (Nat.zero_le _) (by omega)
    unfold f_X1_fixedLights
    rw [if_pos q5, show (nI 0 : Int32) = nI (bset (fun l => decide (S (43 + l) = 0)) 0) from rfl, show nI (bset (fun l => decide (S (43 + l) = 0)) 0) = nI 0 from rfl]
    rw [show f_X1_fixedLights_L4 N 3 σ N (nI 0) (nI 0) = _ from f, bp_q]
    congr 2
    exact bset_cong (fun l _ => by unfold lfT; rw [if_neg q3, if_neg q4, if_pos q5])
  rw [if_neg q5]
  by_cases q6 : K = 6
  · have v8 := k6 q6
    have a12 : σ.1 (rr 4 v) 12 = nI (bset (alQ S v) (S 0)) := (hA v v8).1
    have b0 : bset (alQ S v) (S 0) / 2 ^ v % 2 = 0 := by
      rw [bset_bit, if_neg (fun w => by
        have := w.2
        unfold alQ at this
        rw [decide_eq_false (fun y => y rfl)] at this
        cases this)]
    have os := or_set v (by omega) _ (bset_lt8 (alQ S v) c1) b0
    rw [if_pos q6, ald_q hi (by decide), z3, ald_q (by omega) (by decide), vl_q, a12, ald_q hi (by decide), z3, os.1]
    congr 2
    refine bset_x os.2 (bset_lt8 _ c1) (fun l hl => ?_)
    rw [bit_set v (by omega) l hl _ (bset_lt8 (alQ S v) c1) b0, bset_bit, bset_bit]
    unfold lfT alQ
    rw [if_neg q3, if_neg q4, if_neg q5, if_pos q6]
    by_cases y : l = v
    · rw [if_pos y, if_pos ⟨by omega, by rw [decide_eq_true y]; rfl⟩]
    · rw [if_neg y, decide_eq_false y, show decide (v ≠ l) = true from decide_eq_true (fun e => y e.symm), Bool.true_and, Bool.false_or, alk_comm]
  rw [if_neg q6]
  by_cases q7 : K = 7
  · have sl : seesS S v < 2 ^ S 0 := Nat.lt_of_le_of_lt Nat.and_le_left (bset_lt _ _)
    rw [if_pos q7, ald_q hi (by decide), z3, c_seenBy (by omega) hC hW hM hS (k7 q7), bp_q]
    congr 2
    rw [bset_cong (p := lfT S K u v) (q := fun l => decide (seesS S v / 2 ^ l % 2 = 1)) (fun l _ => by unfold lfT; rw [if_neg q3, if_neg q4, if_neg q5, if_neg q6, if_pos q7])]
    exact (bset_self _ (by omega) _ sl).symm
  · have f := c_mesL (N := N) hM hS hC hW (K := K) (u := u) (v := v) ⟨by omega, hK.2⟩ (k8 (by omega)) hv hi z1 z2 z3 N 0 (Nat.zero_le _) (by omega)
    unfold f_X7_measuredSet
    rw [if_neg q7, show f_X7_measuredSet_L5 N 61 49 (nI i) σ N (nI 0) (nI 0) = _ from f, bp_q]
    congr 2
    exact bset_cong (fun l _ => by unfold lfT; rw [if_neg q3, if_neg q4, if_neg q5, if_neg q6, if_neg q7])
end Lfs
