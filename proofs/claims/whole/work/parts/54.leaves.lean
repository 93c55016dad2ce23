/-! a sentence's leaf: both sides -/
def OneC (s s' : St) : Prop := ∀ b, b ≠ 1 → s'.1 b = s.1 b ∧ s'.2 b = s.2 b
theorem OneC.put {s s' : St} {a k : Nat} {v : Int32} (h : OneC s s') (ha : a ≠ 1) : OneC (sI s a k v) (sI s' a k v) := fun b hb => ⟨by
  by_cases e : b = a
  · subst e; rw [sI_row, sI_row, (h b hb).1]
  · rw [sI_ne e, sI_ne e]; exact (h b hb).1, (h b hb).2⟩
theorem OneC.ad {s s' : St} {c K u v : Nat} (h : OneC s s') : OneC (adC s c K u v) (adC s' c K u v) := (((h.put (by decide)).put (by decide)).put (by decide)).put (by decide)
theorem OneC.fk {s s' : St} {ks : List Nat} (h : FK 1 ks s s') : OneC s s' := h.1
def EPR (n L : Nat) (B : Nat → Nat) (σ τ : St) : Prop := ∃ k a b c d v, PR σ τ n L B k a b c d v
/-- the stack stays, an operand stands before -/
def SKf (τ τ' : St) : Prop := τ'.1 206 46 = τ.1 206 46 ∧ τ'.1 206 47 = τ.1 206 47 ∧ τ'.1 206 48 = nI 1 ∧ τ'.1 220 = τ.1 220
def LfE (n L : Nat) (B : Nat → Nat) (τ : St) (m0 m1 q c h : Nat) (x y : Option (Int32 × St)) : Prop := (∃ σ' τ' w a, x = some (nI 0, σ') ∧ y = some (nI 0, τ') ∧ FltP σ' τ' w a) ∨ ∃ σ' τ' K', x = some (nI 1, σ') ∧ y = some (nI 1, τ') ∧ SE σ' τ' m0 m1 q (c + 1) (h + 1) K' ∧ EPR n L B σ' τ' ∧ SKf τ τ'
/-- the model's leaf -/
def mLf (N : Nat) (v3 : Int32) (s12 : St) : Option (Int32 × St) :=
          vl (sI s12 206 48 (nI 1)) fun s22 =>
          if (nI 3) ≤ v3 then
            if (nI 5) ≤ v3 then
              vl (s22.1 206 11) fun v23 =>
              jn (bd (f_X12_bad (nI 1) s22) fun v25 s26 =>
                rz v25 <|
                some (v25, s26)) fun j24 =>
              if v23 = (nI 3) then
                vl (s22.1 206 14) fun v27 =>
                if v27 < (nI 60) then
                  j24
                else
                vl (s22.1 206 14) fun v28 =>
                if v28 ≤ (nI 62) then
                  vl (s22.1 206 14) fun v29 =>
                  bp (f_X12_next N s22) fun s30 =>
                  vl (s30.1 206 11) fun v31 =>
                  if v31 = (nI 2) then
                    vl (s30.1 206 14) fun v32 =>
                    bp (f_X12_code v3 v29 v32 s30) fun s33 =>
                    bp (f_X12_next N s33) fun s34 =>
                    some ((nI 1), s34)
                  else
                  bd (f_X12_bad (nI 1) s30) fun v35 s36 =>
                  rz v35 <|
                  some (v35, s36)
                else
                j24
              else
              j24
            else
            jn (fun (v37 : Int32) (s38 : St) =>
              if v37 = 0 then
                some ((nI 0), s38)
              else
              vl (s38.1 206 18) fun v40 =>
              bp (f_X12_code v3 (nI 0) v40 s38) fun s41 =>
              bp (f_X12_next N s41) fun s42 =>
              some ((nI 1), s42)) fun j39 =>
            if v3 = (nI 3) then
              ald (s22.1 208) 359 (nI 0) fun v43 =>
              bd (f_X12_looksAt N (nI 0) v43 s22) fun v44 s45 =>
              j39 v44 s45
            else
            ald (s22.1 208) 359 (nI 1) fun v46 =>
            bd (f_X12_looksAt N (nI 8) v46 s22) fun v47 s48 =>
            j39 v47 s48
          else
          bp (f_X12_code v3 (nI 0) (nI 0) s22) fun s49 =>
          some ((nI 1), s49)
section Leaf
variable {σ τ : St} {N n L k a b cc d v m0 m1 q c h : Nat} {B K : Nat → Nat}
theorem SE_48 (H : SE σ τ m0 m1 q c h K) (f : Nat) (w : Int32) (hf : f ≠ 44 ∧ f ≠ 45) : SE σ (sI τ 206 f w) m0 m1 q c h K :=
  SE_w H (fun _ _ => ⟨rfl, rfl⟩) (sI_ne (by decide)) (sI_ne (by decide)) rfl rfl (by rw [sI1, if_pos rfl, if_neg (fun e => hf.1 e.symm)]) (by rw [sI1, if_pos rfl, if_neg (fun e => hf.2 e.symm)])
theorem p_lfP {K0 : Nat} (H : PR σ τ n L B k a b cc d v) (E : SE σ τ m0 m1 q c h K) (hc : c < 40) (hK : 3 ≤ K0 ∧ K0 ≤ 5) : LfE n L B τ m0 m1 q c h (f_X7_readPlain N 66 (nI K0) σ) (mLf N (nI (K0 - 3)) τ) := by
  have e3 : mKd K0 = K0 - 3 := by unfold mKd; rw [if_neg (by omega), if_neg (by omega), if_neg (by omega)]
  have P1 : PR σ (sI τ 206 48 (nI 1)) n L B k a b cc d v := PR_K H (FK.rf (ks := [])) (fun x hx => absurd hx List.not_mem_nil) (FK.rf.sI (ks := [48]) (by decide)) (by decide)
  have E1 := SE_48 E 48 (nI 1) (by decide)
  have ad := c_add (σ := σ) (K := K0) (u := 0) (v := 0) E.2.2.1.1 hc
  have md := m_code (τ := sI τ 206 48 (nI 1)) (K := K0 - 3) (u := 0) (v := 0) E1.2.2.1.2.1 (by omega)
  have cls : f_X7_readPlain N 66 (nI K0) σ = some (nI 1, adC σ c K0 0 0) := by
    unfold f_X7_readPlain
    rw [ad, bd_q, rz_1, if_eqq (by omega) (by decide), if_eqq (by omega) (by decide), if_eqq (by omega) (by decide)]
    by_cases q3 : K0 = 3
    · rw [if_pos q3]
    · rw [if_neg q3]
      by_cases q4 : K0 = 4
      · rw [if_pos q4]
      · rw [if_neg q4, if_pos (by omega)]
  have E2 := SE_add (h' := h + 1) (K0 := K0) (u := 0) (v := 0) E1 hc (by omega) (by decide) (by decide) (by omega) (by omega) (by omega) ⟨by omega, by rw [if_neg (by omega), if_neg (by omega)]; omega⟩
  rw [e3] at E2
  refine Or.inr ⟨_, adM (sI τ 206 48 (nI 1)) c (K0 - 3) 0 0, _, cls, ?_, E2, ⟨k, a, b, cc, d, v, PR_adC (PR_adM P1)⟩, ?_, ?_, ?_, ?_⟩
  · unfold mLf
    rw [vl_q, if_leq (by decide) (by omega), if_neg (by omega), md, bp_q]
  · rw [adM_k (by decide), sI1, if_pos rfl, if_neg (by decide)]
  · rw [adM_k (by decide), sI1, if_pos rfl, if_neg (by decide)]
  · rw [adM_k (by decide), sI1, if_pos rfl, if_pos rfl]
  · rw [adM_o (by decide) (by decide), sI_ne (by decide)]
/-- behind a name: the code is added, the next token read -/
theorem p_lfA {K0 u w : Nat} {τ1 : St} (hN : 1000 ≤ N) (H : PR σ τ1 n L B k a b cc d v) (hk : k = 1 ∨ k = 2 ∨ k = 3) (E : SE σ τ1 m0 m1 q c h K) (hc : c < 40) (hK : 3 ≤ K0 ∧ K0 ≤ 11) (hu : u ≤ 999) (hw : w ≤ 999) (k6 : K0 = 6 → w < m0) (k7 : K0 = 7 → w < m1) (k8 : 8 ≤ K0 → 60 ≤ u ∧ u ≤ 62) (hS : SKf τ τ1) : ∃ σ1 τ2, f_X9_next N σ = some σ1 ∧ f_X7_add 66 (nI K0) (nI u) (nI w) σ1 = some (nI 1, adC σ1 c K0 u w) ∧ f_X12_code (nI (K0 - 3)) (nI u) (nI w) τ1 = some (adM τ1 c (K0 - 3) u w) ∧ f_X12_next N (adM τ1 c (K0 - 3) u w) = some τ2 ∧ (∃ K', SE (adC σ1 c K0 u w) τ2 m0 m1 q (c + 1) (h + 1) K') ∧ EPR n L B (adC σ1 c K0 u w) τ2 ∧ SKf τ τ2 ∧ FK 1 [2, 3, 4, 8, 9] σ σ1 := by
  have e3 : mKd K0 = K0 - 3 := by unfold mKd; rw [if_neg (by omega), if_neg (by omega), if_neg (by omega)]
  have P1 : PR σ (adM τ1 c (K0 - 3) u w) n L B k a b cc d v := PR_adM H
  obtain ⟨σ1, τ2, g1, g2, f1, f2, k1, a1, b1, c1, d1, v1, P2, _⟩ := p_next hN P1 hk
  have ad := c_add (σ := σ1) (K := K0) (u := u) (v := w) (by rw [(f1.1 66 (by decide)).1]; exact E.2.2.1.1) hc
  have md := m_code (τ := τ1) (K := K0 - 3) (u := u) (v := w) E.2.2.1.2.1 (by omega)
  have E2 := SE_add (h' := h + 1) (K0 := K0) (u := u) (v := w) E hc (by omega) hu hw k6 k7 k8 ⟨by omega, by rw [if_neg (by omega), if_neg (by omega)]; omega⟩
  rw [e3] at E2
  have E3 := SE_w (σ' := adC σ1 c K0 u w) (τ' := τ2) E2 (OneC.fk f1).ad (f2.1 208 (by decide)).1 (f2.1 210 (by decide)).1 (f2.1 211 (by decide)).2 (f2.1 212 (by decide)).2 (f2.2 44 (by decide)).1 (f2.2 45 (by decide)).1
  refine ⟨σ1, τ2, g1, ad, md, g2, ⟨_, E3⟩, ⟨k1, a1, b1, c1, d1, v1, PR_adC P2⟩, ⟨?_, ?_, ?_, ?_⟩, f1⟩
  · rw [(f2.2 46 (by decide)).1, adM_k (by decide)]; exact hS.1
  · rw [(f2.2 47 (by decide)).1, adM_k (by decide)]; exact hS.2.1
  · rw [(f2.2 48 (by decide)).1, adM_k (by decide)]; exact hS.2.2.1
  · rw [(f2.1 220 (by decide)).1, adM_o (by decide) (by decide)]; exact hS.2.2.2
theorem p_lfN {K0 : Nat} (hN : 1000 ≤ N) (H : PR σ τ n L B k a b cc d v) (E : SE σ τ m0 m1 q c h K) (hc : c < 40) (hK : K0 = 6 ∨ K0 = 7) : LfE n L B τ m0 m1 q c h (f_X7_readPlain N 66 (nI K0) σ) (mLf N (nI (K0 - 3)) τ) := by
  have P1 : PR σ (sI τ 206 48 (nI 1)) n L B k a b cc d v := PR_K H (FK.rf (ks := [])) (fun x hx => absurd hx List.not_mem_nil) (FK.rf.sI (ks := [48]) (by decide)) (by decide)
  have E1 := SE_48 E 48 (nI 1) (by decide)
  obtain ⟨⟨x1, x2, x3, x4, x5, x6, x7, x8, x9⟩, _⟩ := id E1
  have sk : SKf τ (sI τ 206 48 (nI 1)) := ⟨by rw [sI1, if_pos rfl, if_neg (by decide)], by rw [sI1, if_pos rfl, if_neg (by decide)], by rw [sI1, if_pos rfl, if_pos rfl], sI_ne (by decide)⟩
  unfold f_X7_readPlain mLf
  rw [if_eqq (by omega) (by decide), if_neg (by omega), if_eqq (by omega) (by decide), if_neg (by omega), if_eqq (by omega) (by decide), if_neg (by omega), if_eqq (a := K0) (b := 6) (by omega) (by decide), vl_q, if_leq (a := 3) (by decide) (by omega), if_pos (show 3 ≤ K0 - 3 by omega), if_leq (a := 5) (by decide) (by omega), if_neg (show ¬ 5 ≤ K0 - 3 by omega), jn_q, if_eqq (a := K0 - 3) (b := 3) (by omega) (by decide)]
  have go : ∀ l, l ≤ 999 → (K0 = 6 → l < m0) → (K0 = 7 → l < m1) → k = 1 → LfE n L B τ m0 m1 q c h (bd (f_X7_readNamed N 66 (nI K0) (nI l) σ) fun v9 s10 => rz v9 (some (v9, s10))) (vl ((sI (sI τ 206 48 (nI 1)) 206 18 (nI l)).1 206 18) fun v40 => bp (f_X12_code (nI (K0 - 3)) (nI 0) v40 (sI (sI τ 206 48 (nI 1)) 206 18 (nI l))) fun s41 => bp (f_X12_next N s41) fun s42 => some ((nI 1), s42)) := fun l hl w6 w7 hk1 => by
    have P2 : PR σ (sI (sI τ 206 48 (nI 1)) 206 18 (nI l)) n L B k a b cc d v := PR_K P1 (FK.rf (ks := [])) (fun x hx => absurd hx List.not_mem_nil) (FK.rf.sI (ks := [18]) (by decide)) (by decide)
    have E2 := SE_48 E1 18 (nI l) (by decide)
    have sk2 : SKf τ (sI (sI τ 206 48 (nI 1)) 206 18 (nI l)) := ⟨by rw [sI1, if_pos rfl, if_neg (by decide)]; exact sk.1, by rw [sI1, if_pos rfl, if_neg (by decide)]; exact sk.2.1, by rw [sI1, if_pos rfl, if_neg (by decide)]; exact sk.2.2.1, (sI_ne (by decide)).trans sk.2.2.2⟩
    obtain ⟨σ1, τ2, g1, g2, g3, g4, ⟨K', E3⟩, ep, s3, _⟩ := p_lfA (u := 0) hN P2 (Or.inl hk1) E2 hc (by omega) (by decide) hl w6 w7 (by omega) sk2
    unfold f_X7_readNamed
    rw [if_nm1 (by omega), g1, bp_q, g2, bd_q, rz_1, bd_q, rz_1, vl_q, sI1, if_pos rfl, if_pos rfl, g3, bp_q, g4, bp_q]
    exact Or.inr ⟨_, _, K', rfl, rfl, E3, ep, s3⟩
  rcases hK with z | z
  · rw [if_pos z, if_pos (show K0 - 3 = 3 by omega), ald_q (by decide) (by decide), x7]
    rcases p_lightAt (ch := 3) (f := 0) (m := m0) hN x9 P1 x1 x2 (by omega) (by rw [d3.1]; exact x5) with ⟨σ', τ', w, a', e1, e2, fl, _, _⟩ | ⟨hk1, l, hl, e1, e2⟩
    · unfold f_X7_readNamed
      rw [e1, bd_q, if_pos rfl, bd_q, rz_0, e2, bd_q]
      dsimp only
      rw [if_pos (by decide)]
      exact Or.inl ⟨σ', τ', w, a', rfl, rfl, fl⟩
    · rw [e1, bd_q, e2, bd_q]
      dsimp only
      rw [if_one]
      exact go l (by omega) (fun _ => hl) (fun w => by omega) hk1
  · rw [if_neg (show ¬ K0 = 6 by omega), if_neg (show ¬ K0 - 3 = 3 by omega), if_eqq (a := K0) (b := 7) (by omega) (by decide), if_pos z, ald_q (by decide) (by decide), x8]
    rcases p_shipAt (ch := 3) (f := 8) (m := m1) hN x9 P1 x3 x4 (by omega) (by rw [d3.2]; exact x6) with ⟨σ', τ', w, a', e1, e2, fl, _, _⟩ | ⟨hk1, l, hl, e1, e2⟩
    · unfold f_X7_readNamed
      rw [e1, bd_q, if_pos rfl, bd_q, rz_0, e2, bd_q]
      dsimp only
      rw [if_pos (by decide)]
      exact Or.inl ⟨σ', τ', w, a', rfl, rfl, fl⟩
    · rw [e1, bd_q, e2, bd_q]
      dsimp only
      rw [if_one]
      exact go l (by omega) (fun w => by omega) (fun _ => hl) hk1
theorem p_lfM {K0 : Nat} (hN : 1000 ≤ N) (H : PR σ τ n L B k a b cc d v) (E : SE σ τ m0 m1 q c h K) (hc : c < 40) (hK : 8 ≤ K0 ∧ K0 ≤ 11) : LfE n L B τ m0 m1 q c h (f_X7_readPlain N 66 (nI K0) σ) (mLf N (nI (K0 - 3)) τ) := by
  have P1 : PR σ (sI τ 206 48 (nI 1)) n L B k a b cc d v := PR_K H (FK.rf (ks := [])) (fun x hx => absurd hx List.not_mem_nil) (FK.rf.sI (ks := [48]) (by decide)) (by decide)
  have E1 := SE_48 E 48 (nI 1) (by decide)
  have sk : SKf τ (sI τ 206 48 (nI 1)) := ⟨by rw [sI1, if_pos rfl, if_neg (by decide)], by rw [sI1, if_pos rfl, if_neg (by decide)], by rw [sI1, if_pos rfl, if_pos rfl], sI_ne (by decide)⟩
  obtain ⟨a1, a2⟩ := tok_3 P1.2
  unfold f_X7_readPlain mLf
  rw [if_eqq (by omega) (by decide), if_neg (by omega), if_eqq (by omega) (by decide), if_neg (by omega), if_eqq (by omega) (by decide), if_neg (by omega), if_eqq (by omega) (by decide), if_neg (by omega), if_eqq (by omega) (by decide), if_neg (by omega), vl_q, if_leq (by decide) (by omega), if_pos (by omega), if_leq (by decide) (by omega), if_pos (by omega), vl_q]
  unfold f_X7_readMeasure
  rw [(c_isSign (sg := 60) (by decide) H).1, (c_isSign (sg := 61) (by decide) H).1, (c_isSign (sg := 62) (by decide) H).1, bp_q, jn_q, if_bI, bp_q, if_bI, bp_q, if_bI, jn_q]
  have bad : ∀ x y, (∀ s, f_X9_refuse (nI 1) σ = some (nI 0, s) → x = some (nI 0, s)) → (∀ s, f_X12_bad (nI 1) (sI τ 206 48 (nI 1)) = some (nI 0, s) → y = some (nI 0, s)) → LfE n L B τ m0 m1 q c h x y := fun x y hx hy => by
    obtain ⟨σ', τ', w, a', e1, e2, f, _⟩ := p_bad2 (w := 1) (x := x) (y := y) P1 (by decide) hx hy
    exact Or.inl ⟨σ', τ', w, a', e1, e2, f⟩
  by_cases k3 : k = 3
  · obtain ⟨v9, c4, m14⟩ := P1.2.2.2.1 (Or.inr k3)
    by_cases sg : 60 ≤ v ∧ v ≤ 62
    · have main : LfE n L B τ m0 m1 q c h (bd (bp (f_X9_next N σ) fun s4 => bd (f_X9_takeNumber N (nI 0) (nI 999) s4) fun v5 s6 => jn (fun (s7 : St) => some ((nI 0), s7)) fun j8 => if v5 = 0 then j8 s6 else vl (s6.1 1 5) fun v9 => bd (f_X7_add 66 (nI K0) (σ.1 1 4) v9 s6) fun v10 s11 => if v10 = 0 then j8 s11 else some ((nI 1), s11)) fun v15 s16 => rz v15 (some (v15, s16))) (bp (f_X12_next N (sI τ 206 48 (nI 1))) fun s30 => vl (s30.1 206 11) fun v31 => if v31 = (nI 2) then vl (s30.1 206 14) fun v32 => bp (f_X12_code (nI (K0 - 3)) (nI v) v32 s30) fun s33 => bp (f_X12_next N s33) fun s34 => some ((nI 1), s34) else bd (f_X12_bad (nI 1) s30) fun v35 s36 => rz v35 (some (v35, s36))) := by
        obtain ⟨σ1, τ1, e1, e2, f1, f2, k1, aa1, bb1, cc1, dd1, v1, P2, _⟩ := p_next hN P1 (Or.inr (Or.inr k3))
        obtain ⟨t1, t2⟩ := tok_2 P2.2
        have E2 := SE_K E1 f1 f2 (by decide) (by decide)
        rw [c4, e1, e2, bp_q, bp_q, vl_q]
        unfold f_X9_takeNumber f_X9_atNumber
        simp only [vl_q]
        by_cases k2 : k1 = 2
        · obtain ⟨v19, d4, n14⟩ := P2.2.2.2.1 (Or.inl k2)
          have P3 : PR (sI σ1 1 5 (nI v1)) τ1 n L B k1 aa1 bb1 cc1 dd1 v1 := PR_K P2 (FK.rf.sI (ks := [5]) (by decide)) (by decide) (FK.rf (ks := [])) (fun x hx => absurd hx List.not_mem_nil)
          have E3 : SE (sI σ1 1 5 (nI v1)) τ1 m0 m1 q c h K := SE_w E2 (fun b hb => ⟨sI_ne hb, rfl⟩) rfl rfl rfl rfl rfl rfl
          have sk2 : SKf τ τ1 := ⟨(f2.2 46 (by decide)).1.trans sk.1, (f2.2 47 (by decide)).1.trans sk.2.1, (f2.2 48 (by decide)).1.trans sk.2.2.1, (f2.1 220 (by decide)).1.trans sk.2.2.2⟩
          obtain ⟨σ2, τ2, g1, g2, g3, g4, ⟨K', E4⟩, ep, s3, ff⟩ := p_lfA (K0 := K0) (u := v) (w := v1) hN P3 (Or.inr (Or.inl k2)) E3 hc (by omega) v9 v19 (by omega) (by omega) (fun _ => sg) sk2
          have c5 : σ2.1 1 5 = nI v1 := by rw [(ff.2 5 (by decide)).1, sI1, if_pos rfl, if_pos rfl]
          rw [if_pos (t1.mpr k2), if_pos (t2.mpr k2), d4, n14, jn_q, if_ltq (by omega) (by omega), if_neg (Nat.not_lt_zero _), if_leq (by omega) (by decide), if_pos v19, bd_q, if_one, d4, g1, bp_q, bd_q, jn_q, if_one, c5, g2, bd_q, if_one, bd_q, rz_1, g3, bp_q, g4, bp_q]
          exact Or.inr ⟨_, _, K', rfl, rfl, E4, ep, s3⟩
        · rw [if_neg (fun w => k2 (t1.mp w)), if_neg (fun w => k2 (t2.mp w))]
          obtain ⟨σ', τ', w, a', e1, e2, f, _⟩ := p_bad2 (w := 1) (x := f_X9_refuse (nI 1) σ1) (y := f_X12_bad (nI 1) τ1) P2 (by decide) (fun s e => e) (fun s e => e)
          rw [e1, e2, bd_q, rz_0, bd_q, if_pos (by decide), bd_q, jn_q, if_pos (by decide), bd_q, rz_0, bd_q, rz_0]
          exact Or.inl ⟨σ', τ', w, a', rfl, rfl, f⟩
      rw [if_pos (a2.mpr k3), vl_q, vl_q, m14, if_ltq (by omega) (by decide), if_neg (show ¬ v < 60 by omega), vl_q, if_leq (by omega) (by decide), if_pos sg.2, vl_q]
      by_cases s0 : v = 60
      · rw [if_pos (decide_eq_true ⟨k3, s0⟩)]; exact main
      · rw [if_neg (fun w => s0 (of_decide_eq_true w).2)]
        by_cases s1 : v = 61
        · rw [if_pos (decide_eq_true ⟨k3, s1⟩)]; exact main
        · rw [if_neg (fun w => s1 (of_decide_eq_true w).2), if_pos (decide_eq_true ⟨k3, by omega⟩)]; exact main
    · rw [if_neg (fun w => sg (by have := (of_decide_eq_true w).2; omega)), if_neg (fun w => sg (by have := (of_decide_eq_true w).2; omega)), if_neg (fun w => sg (by have := (of_decide_eq_true w).2; omega)), if_pos (a2.mpr k3), vl_q, m14, if_ltq (by omega) (by decide)]
      refine bad _ _ (fun s e => ?_) (fun s e => ?_)
      · show bd (bd (f_X9_refuse (nI 1) σ) _) _ = _
        rw [e, bd_q, rz_0, bd_q, rz_0]
      · by_cases y : v < 60
        · rw [if_pos y, e, bd_q]; exact rz_0 _
        · rw [if_neg y, vl_q, if_leq (by omega) (by decide), if_neg (by omega), e, bd_q]; exact rz_0 _
  · rw [if_neg (fun w => k3 (of_decide_eq_true w).1), if_neg (fun w => k3 (of_decide_eq_true w).1), if_neg (fun w => k3 (of_decide_eq_true w).1), if_neg (fun w => k3 (a2.mp w))]
    refine bad _ _ (fun s e => ?_) (fun s e => ?_)
    · show bd (bd (f_X9_refuse (nI 1) σ) _) _ = _
      rw [e, bd_q, rz_0, bd_q, rz_0]
    · show bd (f_X12_bad (nI 1) (sI τ 206 48 (nI 1))) _ = _
      rw [e, bd_q, rz_0]
end Leaf
