/-! 'from', 'dark', 'haze', 'ship': both sides -/
theorem bit_set : ∀ l, l < 8 → ∀ m, m < 8 → ∀ b, b < 256 → b / 2 ^ l % 2 = 0 → (b + 2 ^ l) / 2 ^ m % 2 = if m = l then 1 else b / 2 ^ m % 2 := by decide +kernel
theorem put_agr {h : Nat → Nat} {j v m : Nat} (hj : ¬ idxL m j) : agr h (put h j v) m := putL_a hj
section Rest
variable {σ τ : St} {N n L k a b c d v g : Nat} {h B : Nat → Nat}
theorem p_readFrom (hN : 1000 ≤ N) (H : PR σ τ n L B k a b c d v) (hk : k = 1) (D : DR σ τ h g) : LnE σ τ n L B b (f_X1_readFrom N 26 σ) (f_X12_readFrom N τ) := by
  obtain ⟨σ1, τ1, e1, e2, r0, ⟨n1, hB1⟩, rest⟩ := p_named hN H hk D
  unfold f_X1_readFrom f_X12_readFrom
  rw [e1, e2, bp_q, bp_q, ald_q (by decide) (by decide), r0]
  rcases rest with bad | ⟨l, k1, aa1, bb1, cc1, dd1, v1, hl, q1, q2, P1, kk1, bl, D1, n2, x5, x19, t18⟩
  · exact LnE_badN bad n1 hB1 (fun s e => by rw [e, bd_q, if_pos rfl]) (fun s e => by rw [e, bd_q, if_pos (by decide)])
  have l8 : l < 8 := by have := D.2.1.1; omega
  obtain ⟨w1, r1, f7⟩ := D1.2.2.2.2.1 l hl
  obtain ⟨c20, cg1, cg2⟩ := D1.2.2.2.1
  have hb2 := m2 (g / 2 ^ l)
  rw [q1, bd_q, if_nm1 (by omega), d26.1, ald_q l8 (by decide), d27 l8, vl_q, f7, q2, bd_q, if_one, vl_q, t18, vl_q, c20, m_bitOf cg2 l8, bp_q, if_bI, if_eq0 (by omega)]
  by_cases z : g / 2 ^ l % 2 = 0
  · rw [if_pos z, if_neg (by rw [decide_eq_false (by omega)]; decide), vl_q, (or_set l l8 _ cg2 z).1, vl_q]
    have f20 : FK 206 [20] (sI τ1 206 18 (nI l)) (sI (sI τ1 206 18 (nI l)) 206 20 (nI (g + 2 ^ l))) := FK.rf.sI (by decide)
    have P2 := PR_K P1 (FK.rf (ks := [])) (fun x hx => absurd hx List.not_mem_nil) f20 (by decide)
    obtain ⟨σ3, τ3, g1, g2, f3, f4, k3, aa3, bb3, cc3, dd3, v3, P3, l3⟩ := p_next hN P2 (Or.inl kk1)
    have n3 := N12_K (N12_K n2 f20) f4
    rw [g1, g2, bp_q, bp_q, nI_addq]
    rcases p_puts (lo := 0) (hi := 59) (j := 115 + l) hN (by decide) (by decide) (by omega) P3 with bad | ⟨_, u2, σ4, τ4, q3, q4, ⟨kk3, ad4, ff3, ff4⟩, t5⟩
    · exact LnE_bad bad n3 (fun s e => by rw [e, bd_q, if_pos (by decide)]) (fun s e => by rw [e, bd_q, rz_0])
    have F := f3.mono (ls := [2, 3, 4, 5, 6, 7, 8, 9]) (by decide)
    have FF := F.trans ff3
    have GG := ((f20.mono (ls := [4, 11, 12, 13, 14, 15, 16, 17, 18, 20]) (by decide)).trans (f4.mono (by decide))).trans (ff4.mono (by decide))
    rw [q3, bd_q, if_one, ald_q l8 (by decide), d27 l8, vl_q, t5, vl_q, ald_q l8 (by decide), d27 l8, vl_q, q4, bd_q, rz_1]
    have es : ∀ b, b ≠ 1 → σ4.1 b = σ1.1 b ∧ σ4.2 b = σ1.2 b := FF.1
    have nr : ∀ j, j ≠ 115 + l → put h (115 + l) v3 j = h j := fun j hj => put_ne hj
    have ag : ∀ m, m < 8 → m ≠ l → agr h (put h (115 + l) v3) m := fun m hm hne => putL_a (by unfold idxL; omega)
    obtain ⟨y1, y2, y3, y4, y5, y6, y7, y8, y9⟩ := id w1
    obtain ⟨s1, s2, s3, s4, s5, s6, s8, s9, s10, s11⟩ := id r1
    have per : perS (put h (115 + l) v3) l = perS h l := by
      unfold perS
      have e : ∀ k, k ≤ 4 → sumS (put h (115 + l) v3) l k = sumS h l k := by
        intro k
        induction k with
        | zero => intro _; rfl
        | succ k ih => intro hk; simp only [sumS, dS]; rw [ih (by omega), nr _ (by omega), nr _ (by omega)]
      rw [nr _ (by omega), e _ y6]
    have ong : ∀ n k left, n + k ≤ 4 → onG (put h (115 + l) v3) l n k left = onG h l n k left := by
      intro n
      induction n with
      | zero => intro k left _; rfl
      | succ n ih =>
        intro k left hk
        have e1 : put h (115 + l) v3 (51 + 4 * l + k) = h (51 + 4 * l + k) := nr _ (by omega)
        have e2 : dS (put h (115 + l) v3) l k = dS h l k := by unfold dS; rw [e1, nr _ (by omega)]
        simp only [onG, e1, e2, ih (k + 1) _ (by omega)]
    have A : ∀ j, (sI (sI σ4 (29 + 2 * l) 6 (nI v3)) (29 + 2 * l) 7 (nI 1)).1 (29 + 2 * l) j = if j = 7 then nI 1 else if j = 6 then nI v3 else σ1.1 (29 + 2 * l) j := fun j => by
      rw [sI1, if_pos rfl]
      by_cases z7 : j = 7
      · rw [if_pos z7, if_pos z7]
      · rw [if_neg z7, if_neg z7, sI1, if_pos rfl, (es _ (by omega)).1]
    have R : (sI (sI σ4 (29 + 2 * l) 6 (nI v3)) (29 + 2 * l) 7 (nI 1)).1 (30 + 2 * l) = σ1.1 (30 + 2 * l) := by rw [sI_ne (by omega), sI_ne (by omega), (es _ (by omega)).1]
    have wf : WFl (put h (115 + l) v3) l := by
      unfold WFl
      rw [nr (3 + l) (by omega), nr (11 + l) (by omega), nr (19 + l) (by omega), nr (27 + l) (by omega), nr (35 + l) (by omega), nr (43 + l) (by omega), nr (123 + l) (by omega), put_eq]
      exact ⟨y1, y2, y3, y4, y5, y6, fun k hk => by rw [nr _ (by omega), nr _ (by omega)]; exact y7 k hk, u2, y9⟩
    have lr : LRel (sI (sI σ4 (29 + 2 * l) 6 (nI v3)) (29 + 2 * l) 7 (nI 1)) (29 + 2 * l) (put h (115 + l) v3) l := by
      unfold LRel
      rw [d27r l8, nr (3 + l) (by omega), nr (11 + l) (by omega), nr (19 + l) (by omega), nr (27 + l) (by omega), nr (35 + l) (by omega), nr (43 + l) (by omega), nr (123 + l) (by omega), put_eq, per, R, A, A, A, A, A, A, A, A, A]
      rw [d27r l8] at s11
      refine ⟨s1, s2, s3, s4, s5, rfl, s8, s9, s10, fun p hp => ?_⟩
      rw [s11 p hp]
      unfold onS
      rw [nr (43 + l) (by omega), per, ong 4 0 _ (by omega)]
    have hset := or_set l l8 _ cg2 z
    have D6 : DR (sI (sI σ4 (29 + 2 * l) 6 (nI v3)) (29 + 2 * l) 7 (nI 1)) (sI τ4 209 (115 + l) (nI v3)) (put h (115 + l) v3) (g + 2 ^ l) := by
      refine DR_l D1 hl (fun b b1 b2 b3 b4 => by rw [sI_ne b1, sI_ne b1]; exact (es b b3).1) (fun b b3 => (es b b3).2) ⟨Or.inr (by rw [A]; rfl), fun p hp => by rw [R]; exact (D1.1.2.2 l l8).2 p hp⟩ (fun j hj => ?_) ?_ ?_ ?_ ?_ ⟨?_, hset.2⟩ (nr 0 (by omega)) (nr 1 (by omega)) (nr 2 (by omega)) ag (fun k hk => ⟨nr _ (by omega), nr _ (by omega), nr _ (by omega), nr _ (by omega)⟩) wf lr ?_ (fun m hm hne => by rw [bit_set l l8 m hm g cg2 z, if_neg hne])
      · rw [sI1, if_pos rfl]
        by_cases q : j = 115 + l
        · rw [if_pos q, q, put_eq]
        · rw [if_neg q, nr j q, (GG.1 209 (by decide)).1]; exact D1.1.1 j hj
      · exact (GG.1 212 (by decide)).2
      · exact (GG.1 211 (by decide)).2
      · rw [sI1, if_neg (by decide), (GG.2 21 (by decide)).1]
      · rw [sI1, if_neg (by decide), (ff4.2 20 (by decide)).1, (f4.2 20 (by decide)).1, sI1, if_pos rfl, if_pos rfl]
      · exact set_lt _ D.2.1.1 l hl _ cg1 z
      · rw [A, if_pos rfl, bit_set l l8 l l8 g cg2 z, if_pos rfl]
    have ad6 := AdvT_c ad4 (σ' := sI (sI σ4 (29 + 2 * l) 6 (nI v3)) (29 + 2 * l) 7 (nI 1)) (τ' := sI τ4 209 (115 + l) (nI v3)) ((sI_ne (by omega)).trans (sI_ne (by omega))) ((sI_ne (by omega)).trans (sI_ne (by omega))) rfl (sI_ne (by decide)) (sI_ne (by decide)) rfl
    refine Or.inr ⟨_, _, _, _, rfl, rfl, D6, AdvT_mono ad6 (by have := l3 (Or.inr (Or.inl kk3)); omega), fun j hj => ?_, ?_, ?_⟩
    · show τ4.2 211 j = _
      rw [(ff4.1 211 (by decide)).2]; exact n3 j hj
    · rw [sI_ne (by omega), sI_ne (by omega), (es 26 (by decide)).1]; exact x5
    · rw [sI1, if_neg (by decide), (GG.2 19 (by decide)).1]; exact x19
  · rw [if_neg z, if_pos (decide_eq_true (by omega))]
    exact LnE_bad (p_bad2 (w := 3) P1 (by decide) (fun s e => e) (fun s e => e)) n2 (fun s e => by rw [e, bd_q, rz_0]) (fun s e => by rw [e, bd_q, rz_0])
/-- a number stands here: it isn't taken yet -/
theorem p_at07 (H : PR σ τ n L B k a b c d v) : (k = 2 ∧ v ≤ 7 ∧ f_X9_atNumber (nI 0) (nI 7) σ = some (nI 1, σ) ∧ τ.1 206 11 = nI 2 ∧ τ.1 206 14 = nI v ∧ σ.1 1 4 = nI v) ∨ ((k = 2 → 7 < v) ∧ (∀ s, f_X9_refuse (nI (if k = 2 then 2 else 1)) σ = some (nI 0, s) → f_X9_atNumber (nI 0) (nI 7) σ = some (nI 0, s))) := by
  obtain ⟨a1, a2⟩ := tok_2 H.2
  unfold f_X9_atNumber
  simp only [vl_q]
  by_cases k2 : k = 2
  · obtain ⟨v9, c4, m14⟩ := H.2.2.2.1 (Or.inl k2)
    rw [if_pos (a1.mpr k2), c4, jn_q, if_ltq (by omega) (by omega), if_neg (by omega), if_leq (by omega) (by decide)]
    by_cases q : v ≤ 7
    · rw [if_pos q]
      exact Or.inl ⟨k2, q, rfl, a2.mpr k2, m14, rfl⟩
    · rw [if_neg q, if_pos k2]
      exact Or.inr ⟨fun _ => by omega, fun s e => by rw [e, bd_q, if_pos (by decide)]⟩
  · rw [if_neg (fun w => k2 (a1.mp w)), if_neg k2]
    exact Or.inr ⟨fun w => absurd w k2, fun s e => by rw [e, bd_q, rz_0]⟩
theorem p_readDark (hN : 1000 ≤ N) (H : PR σ τ n L B k a b c d v) (hk : k = 1) (D : DR σ τ h g) : LnE σ τ n L B b (f_X1_readDark N 26 σ) (f_X12_readDark N τ) := by
  obtain ⟨σ1, τ1, e1, e2, r0, ⟨n1, hB1⟩, rest⟩ := p_named hN H hk D
  unfold f_X1_readDark f_X12_readDark f_X12_takesName
  rw [e1, e2, bp_q, bp_q, ald_q (by decide) (by decide), r0]
  rcases rest with bad | ⟨l, k1, aa1, bb1, cc1, dd1, v1, hl, q1, q2, P1, kk1, bl, D1, n2, x5, x19, t18⟩
  · exact LnE_badN bad n1 hB1 (fun s e => by rw [e, bd_q, if_pos rfl]) (fun s e => by rw [e, bd_q, if_pos (by decide), bd_q, if_pos (by decide)])
  have l8 : l < 8 := by have := D.2.1.1; omega
  obtain ⟨σ3, τ3, g1, g2, f3, f4, k3, aa3, bb3, cc3, dd3, v3, P3, l3⟩ := p_next hN P1 (Or.inl kk1)
  have D3 := DR_K D1 f3 f4 (by decide) (by decide)
  have n3 := N12_K n2 f4
  have t18' : τ3.1 206 18 = nI l := by rw [(f4.2 18 (by decide)).1]; exact t18
  rw [q1, bd_q, if_nm1 (by omega), g1, bp_q, q2, bd_q, if_one, g2, bp_q, bd_q, if_one, vl_q, t18', vl_q]
  rcases p_at07 P3 with ⟨k2, v7, c1, m11, m14, c4⟩ | ⟨hv, cb⟩
  · obtain ⟨w1, r1, f7⟩ := D3.2.2.2.2.1 l hl
    have d256 := w1.2.2.2.2.2.2.2.2
    have c8 : σ3.1 (29 + 2 * l) 8 = nI (h (123 + l)) := r1.2.2.2.2.2.2.1
    have h123 : τ3.1 209 (123 + l) = nI (h (123 + l)) := D3.1.1 _ (by omega)
    have hb2 := m2 (h (123 + l) / 2 ^ v3)
    rw [c1, bd_q, if_one, d26.1, ald_q l8 (by decide), d27 l8, vl_q, c8, vl_q, c4, shr_bit v3 (by omega) _ d256, if_eq0 (by omega), m11, if_pos rfl, vl_q, m14, if_leq (by omega) (by decide), if_pos v7, nI_addq, ald_q (f := τ3.1 209) (k := 123 + l) (by omega) (by decide), h123, vl_q, m_bitOf d256 (by omega), bp_q, if_bI]
    by_cases z : h (123 + l) / 2 ^ v3 % 2 = 0
    · have hset := or_set v3 (by omega) _ d256 z
      rw [if_pos z, if_neg (by rw [decide_eq_false (by omega)]; decide), ald_q l8 (by decide), d27 l8, vl_q, c8, vl_q, vl_q, ald_q (f := τ3.1 209) (k := 123 + l) (by omega) (by decide), h123, vl_q, hset.1, ald_q (k := 123 + l) (by omega) (by decide)]
      have nr : ∀ j, j ≠ 123 + l → put h (123 + l) (h (123 + l) + 2 ^ v3) j = h j := fun j hj => put_ne hj
      have ag : ∀ m, m < 8 → m ≠ l → agr h (put h (123 + l) (h (123 + l) + 2 ^ v3)) m := fun m hm hne => putL_a (by unfold idxL; omega)
      obtain ⟨y1, y2, y3, y4, y5, y6, y7, y8, y9⟩ := id w1
      obtain ⟨s1, s2, s3, s4, s5, s6, s8, s9, s10, s11⟩ := id r1
      have per : perS (put h (123 + l) (h (123 + l) + 2 ^ v3)) l = perS h l := by
        unfold perS
        have e : ∀ k, k ≤ 4 → sumS (put h (123 + l) (h (123 + l) + 2 ^ v3)) l k = sumS h l k := by
          intro k
          induction k with
          | zero => intro _; rfl
          | succ k ih => intro hk; simp only [sumS, dS]; rw [ih (by omega), nr _ (by omega), nr _ (by omega)]
        rw [nr _ (by omega), e _ y6]
      have ong : ∀ n k left, n + k ≤ 4 → onG (put h (123 + l) (h (123 + l) + 2 ^ v3)) l n k left = onG h l n k left := by
        intro n
        induction n with
        | zero => intro k left _; rfl
        | succ n ih =>
          intro k left hk
          have e1 : put h (123 + l) (h (123 + l) + 2 ^ v3) (51 + 4 * l + k) = h (51 + 4 * l + k) := nr _ (by omega)
          have e2 : dS (put h (123 + l) (h (123 + l) + 2 ^ v3)) l k = dS h l k := by unfold dS; rw [e1, nr _ (by omega)]
          simp only [onG, e1, e2, ih (k + 1) _ (by omega)]
      have wf : WFl (put h (123 + l) (h (123 + l) + 2 ^ v3)) l := by
        unfold WFl
        rw [nr (3 + l) (by omega), nr (11 + l) (by omega), nr (19 + l) (by omega), nr (27 + l) (by omega), nr (35 + l) (by omega), nr (43 + l) (by omega), nr (115 + l) (by omega), put_eq]
        exact ⟨y1, y2, y3, y4, y5, y6, fun k hk => by rw [nr _ (by omega), nr _ (by omega)]; exact y7 k hk, y8, hset.2⟩
      have A : ∀ j, (sI σ3 (29 + 2 * l) 8 (nI (h (123 + l) + 2 ^ v3))).1 (29 + 2 * l) j = if j = 8 then nI (h (123 + l) + 2 ^ v3) else σ3.1 (29 + 2 * l) j := fun j => by rw [sI1, if_pos rfl]
      have R : (sI σ3 (29 + 2 * l) 8 (nI (h (123 + l) + 2 ^ v3))).1 (30 + 2 * l) = σ3.1 (30 + 2 * l) := sI_ne (by omega)
      have lr : LRel (sI σ3 (29 + 2 * l) 8 (nI (h (123 + l) + 2 ^ v3))) (29 + 2 * l) (put h (123 + l) (h (123 + l) + 2 ^ v3)) l := by
        unfold LRel
        rw [d27r l8, nr (3 + l) (by omega), nr (11 + l) (by omega), nr (19 + l) (by omega), nr (27 + l) (by omega), nr (35 + l) (by omega), nr (43 + l) (by omega), nr (115 + l) (by omega), put_eq, per, R, A, A, A, A, A, A, A, A, A]
        rw [d27r l8] at s11
        refine ⟨s1, s2, s3, s4, s5, s6, rfl, s9, s10, fun p hp => ?_⟩
        rw [s11 p hp]
        unfold onS
        rw [nr (43 + l) (by omega), per, ong 4 0 _ (by omega)]
      obtain ⟨c20, cg1, cg2⟩ := D3.2.2.2.1
      have D6 : DR (sI σ3 (29 + 2 * l) 8 (nI (h (123 + l) + 2 ^ v3))) (sI τ3 209 (123 + l) (nI (h (123 + l) + 2 ^ v3))) (put h (123 + l) (h (123 + l) + 2 ^ v3)) g := by
        refine DR_l D3 hl (fun b b1 b2 b3 b4 => by rw [sI_ne b1]) (fun b b3 => rfl) ⟨by rw [A, if_neg (by decide)]; exact (D3.1.2.2 l l8).1, fun p hp => by rw [R]; exact (D3.1.2.2 l l8).2 p hp⟩ (fun j hj => ?_) rfl rfl (by rw [sI1, if_neg (by decide)]) (by rw [sI1, if_neg (by decide)]; exact c20) ⟨cg1, cg2⟩ (nr 0 (by omega)) (nr 1 (by omega)) (nr 2 (by omega)) ag (fun k hk => ⟨nr _ (by omega), nr _ (by omega), nr _ (by omega), nr _ (by omega)⟩) wf lr ?_ (fun m hm hne => rfl)
        · rw [sI1, if_pos rfl]
          by_cases q : j = 123 + l
          · rw [if_pos q, q, put_eq]
          · rw [if_neg q, nr j q]; exact D3.1.1 j hj
        · rw [A, if_neg (by decide)]; exact f7
      have P4 : PR (sI σ3 (29 + 2 * l) 8 (nI (h (123 + l) + 2 ^ v3))) (sI τ3 209 (123 + l) (nI (h (123 + l) + 2 ^ v3))) n L B k3 aa3 bb3 cc3 dd3 v3 := PR_c P3 (sI_ne (by omega)) (sI_ne (by omega)) rfl (sI_ne (by decide)) (sI_ne (by decide)) rfl
      obtain ⟨σ5, τ5, g5, g6, f5, f6, ad5⟩ := p_next hN P4 (Or.inr (Or.inl k2))
      rw [g5, g6, bp_q, bp_q]
      refine Or.inr ⟨_, _, _, _, rfl, rfl, DR_K D6 f5 f6 (by decide) (by decide), AdvT_mono ad5 (by have := l3 (Or.inr (Or.inl k2)); omega), N12_K (τ1 := sI τ3 209 (123 + l) (nI (h (123 + l) + 2 ^ v3))) n3 f6, ?_, ?_⟩
      · rw [(f5.1 26 (by decide)).1, sI_ne (by omega), (f3.1 26 (by decide)).1]; exact x5
      · rw [(f6.2 19 (by decide)).1, sI1, if_neg (by decide), (f4.2 19 (by decide)).1]; exact x19
    · rw [if_neg z, if_pos (decide_eq_true (by omega))]
      exact LnE_bad (p_bad2 (w := 3) P3 (by decide) (fun s e => e) (fun s e => e)) n3 (fun s e => by rw [e, bd_q, rz_0]) (fun s e => by rw [e, bd_q, rz_0])
  · obtain ⟨a1, a2⟩ := tok_2 P3.2
    by_cases k2 : k3 = 2
    · obtain ⟨v9, _, m14⟩ := P3.2.2.2.1 (Or.inl k2)
      have := hv k2
      rw [if_pos k2] at cb
      rw [if_pos (a2.mpr k2), vl_q, m14, if_leq (by omega) (by decide), if_neg (by omega)]
      exact LnE_bad (p_bad2 (w := 2) P3 (by decide) (fun s e => cb s e) (fun s e => e)) n3 (fun s e => by rw [e, bd_q, if_pos (by decide)]) (fun s e => by rw [e, bd_q, rz_0])
    · rw [if_neg k2] at cb
      rw [if_neg (fun w => k2 (a2.mp w))]
      exact LnE_bad (p_bad2 (w := 1) P3 (by decide) (fun s e => cb s e) (fun s e => e)) n3 (fun s e => by rw [e, bd_q, if_pos (by decide)]) (fun s e => by rw [e, bd_q, rz_0])
theorem p_readHaze (hN : 1000 ≤ N) (H : PR σ τ n L B k a b c d v) (hk : k = 1) (D : DR σ τ h g) : LnE σ τ n L B b (f_X1_readHaze N 26 σ) (vl (τ.1 206 21) fun v9 => if v9 = 0 then vl (sI τ 206 21 (nI 1)) fun s10 => bp (f_X12_next N s10) fun s11 => bd (f_X12_puts N (nI 2) (nI 1) (nI 30) s11) fun v12 s13 => rz v12 <| some (v12, s13) else bd (f_X12_bad (nI 3) τ) fun v14 s15 => rz v14 <| some (v14, s15)) := by
  obtain ⟨⟨a1, a2, a3⟩, a4, ⟨b1, b2, b3⟩, ⟨c1, c2, c3⟩, c4, c5, c6, ⟨n1, n2⟩, z, z1, z2⟩ := id D
  unfold f_X1_readHaze
  rw [vl_q, z1, if_bI, vl_q, z2, if_bI]
  by_cases q : z = true
  · rw [if_pos q, if_pos q]
    exact LnE_bad (p_bad2 (w := 3) H (by decide) (fun s e => e) (fun s e => e)) (fun _ _ => rfl) (fun s e => by rw [e, bd_q, rz_0]) (fun s e => by rw [e, bd_q, rz_0])
  · rw [if_neg q, if_neg q, vl_q]
    have f21 : FK 206 [21] τ (sI τ 206 21 (nI 1)) := FK.rf.sI (by decide)
    have P0 := PR_K H (FK.rf (ks := [])) (fun x hx => absurd hx List.not_mem_nil) f21 (by decide)
    obtain ⟨σ3, τ3, g1, g2, f3, f4, k3, aa3, bb3, cc3, dd3, v3, P3, l3⟩ := p_next hN P0 (Or.inl hk)
    have n3 := N12_K (N12_K (τ := τ) (fun _ _ => rfl) f21) f4
    rw [g1, g2, bp_q, bp_q]
    rcases p_puts (lo := 1) (hi := 30) (j := 2) hN (by decide) (by decide) (by omega) P3 with bad | ⟨u1, u2, σ4, τ4, q3, q4, ⟨kk3, ad4, ff3, ff4⟩, t5⟩
    · exact LnE_bad bad n3 (fun s e => by rw [e, bd_q, if_pos (by decide)]) (fun s e => by rw [e, bd_q, rz_0])
    rw [q3, bd_q, if_one, vl_q, t5, vl_q, vl_q, q4, bd_q, rz_1]
    have FF := (f3.mono (ls := CS) (by decide)).trans ff3
    have GG := ((f21.mono (ls := [4, 11, 12, 13, 14, 15, 16, 17, 18, 21]) (by decide)).trans (f4.mono (by decide))).trans (ff4.mono (by decide))
    have es : ∀ b, b ≠ 1 → σ4.1 b = σ.1 b ∧ σ4.2 b = σ.2 b := FF.1
    have pn : ∀ j, j ≠ 2 → put h 2 v3 j = h j := fun j hj => put_ne hj
    have cb : ∀ b, b ≠ 26 → b ≠ 1 → (sI (sI σ4 26 4 (nI v3)) 26 6 (nI 1)).1 b = σ.1 b := fun b h1 h2 => by rw [sI_ne h1, sI_ne h1]; exact (es b h2).1
    have ag : ∀ m, agr h (put h 2 v3) m := fun m => putL_a (by unfold idxL; omega)
    have D6 : DR (sI (sI σ4 26 4 (nI v3)) 26 6 (nI 1)) (sI τ4 209 2 (nI v3)) (put h 2 v3) g := by
      unfold DR
      rw [pn 0 (by decide), pn 1 (by decide), put_eq]
      refine ⟨⟨fun j hj => ?_, fun i hi => ?_, DBl_w a3 (fun b h1 h2 => cb b (by omega) (by omega))⟩, ⟨a4.1, a4.2.1, u1, u2⟩, ⟨?_, ?_, ?_⟩, ⟨?_, c2, c3⟩, fun l hl => ?_, fun l h1 h2 => ?_, fun k hk => ?_, ⟨fun l hl => ?_, fun l hl => ?_⟩, true, by rw [sI1, if_pos rfl, if_pos rfl]; rfl, ?_⟩
      · rw [sI1, if_pos rfl]
        by_cases y : j = 2
        · rw [if_pos y, y, put_eq]
        · rw [if_neg y, pn j y, (GG.1 209 (by decide)).1]; exact a1 j hj
      · show τ4.2 212 i = _
        rw [(GG.1 212 (by decide)).2]; exact a2 i hi
      · rw [sI1, if_pos rfl, if_neg (by decide), sI1, if_pos rfl, if_neg (by decide), (es 26 (by decide)).1]; exact b1
      · rw [sI1, if_pos rfl, if_neg (by decide), sI1, if_pos rfl, if_neg (by decide), (es 26 (by decide)).1]; exact b2
      · rw [sI1, if_pos rfl, if_neg (by decide), sI1, if_pos rfl, if_pos rfl]
      · rw [sI1, if_neg (by decide), (GG.2 20 (by decide)).1]; exact c1
      · obtain ⟨x1, x2, x3⟩ := c4 l hl
        have y1 := cb (29 + 2 * l) (by omega) (by omega)
        have y2 := cb (30 + 2 * l) (by omega) (by omega)
        exact ⟨WFl_a (ag l) x1, LRel_a (ag l) x1.2.2.2.2.2.1 (LRel_w (by omega) y1 y2 x2), by rw [y1]; exact x3⟩
      · rw [pn _ (by omega), pn _ (by omega), pn _ (by omega)]
        exact c5 l h1 h2
      · obtain ⟨x1, x2⟩ := c6 k hk
        unfold WFs HRel at *
        rw [pn (131 + k) (by omega), pn (135 + k) (by omega), pn (139 + k) (by omega), pn (143 + k) (by omega), cb (45 + k) (by omega) (by omega)]
        exact ⟨x1, x2⟩
      · obtain ⟨c, d, w, x1, x2⟩ := n1 l hl
        rw [d27 (by omega)] at x1 ⊢
        exact ⟨c, d, w, by show σ4.2 _ _ = _; rw [(es _ (by omega)).2]; exact x1, by show τ4.2 _ _ = _; rw [(GG.1 211 (by decide)).2]; exact x2⟩
      · obtain ⟨c, d, w, x1, x2⟩ := n2 l hl
        rw [d28 (by omega)] at x1 ⊢
        exact ⟨c, d, w, by show σ4.2 _ _ = _; rw [(es _ (by omega)).2]; exact x1, by show τ4.2 _ _ = _; rw [(GG.1 211 (by decide)).2]; exact x2⟩
      · rw [sI1, if_neg (by decide), (ff4.2 21 (by decide)).1, (f4.2 21 (by decide)).1, sI1, if_pos rfl, if_pos rfl]; rfl
    have ad6 := AdvT_c ad4 (σ' := sI (sI σ4 26 4 (nI v3)) 26 6 (nI 1)) (τ' := sI τ4 209 2 (nI v3)) ((sI_ne (by decide)).trans (sI_ne (by decide))) ((sI_ne (by decide)).trans (sI_ne (by decide))) rfl (sI_ne (by decide)) (sI_ne (by decide)) rfl
    refine Or.inr ⟨_, _, _, _, rfl, rfl, D6, AdvT_mono ad6 (by have := l3 (Or.inr (Or.inl kk3)); omega), fun j hj => ?_, ?_, ?_⟩
    · show τ4.2 211 j = _
      rw [(ff4.1 211 (by decide)).2]; exact n3 j hj
    · rw [sI1, if_pos rfl, if_neg (by decide), sI1, if_pos rfl, if_neg (by decide), (es 26 (by decide)).1]
    · rw [sI1, if_neg (by decide), (GG.2 19 (by decide)).1]
end Rest
