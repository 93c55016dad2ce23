/-! a sentence is told: what stands after -/
theorem nI_all (w : Int32) : ∃ x, w = nI x := ⟨w.toBitVec.toNat, by
  apply Int32.toBitVec_inj.mp
  apply BitVec.eq_of_toNat_eq
  show w.toBitVec.toNat = (BitVec.ofNat 32 w.toBitVec.toNat).toNat
  rw [BitVec.toNat_ofNat]
  exact (Nat.mod_eq_of_lt w.toBitVec.isLt).symm⟩
/-- the fields of the model that a sentence leaves -/
theorem sent_fm {N : Nat} {τ : St} {r : Int32} {sr : St} (h : f_X12_sentence N τ = some (r, sr)) : Fm [4, 11, 12, 13, 14, 15, 16, 17, 18, 44, 45, 46, 47, 48] (tkS (nI 200) τ) sr := by
  unfold f_X12_sentence at h
  rw [vl_q, m_taken, bp_q] at h
  have hL : ∀ x ∈ ([4, 11, 12, 13, 14, 15, 16, 17, 18, 44, 45, 46, 47, 48] : List Nat), x ∈ ([4, 11, 12, 13, 14, 15, 16, 17, 18, 44, 45, 46, 47, 48] : List Nat) := fun _ h => h
  have hF : Fm [4, 11, 12, 13, 14, 15, 16, 17, 18, 44, 45, 46, 47, 48] (tkS (nI 200) τ) (tkS (nI 200) τ) := Fm.rf
  refine vl_m h (hF.sI (hL _ (by decide))) (fun s3 hF h => ?_)
  refine vl_m h (hF.sI (hL _ (by decide))) (fun s4 hF h => ?_)
  refine vl_m h (hF.sI (hL _ (by decide))) (fun s5 hF h => ?_)
  refine vl_m h (hF.sI (hL _ (by decide))) (fun s6 hF h => ?_)
  refine vl_m h (hF.sI (hL _ (by decide))) (fun s7 hF h => ?_)
  refine vl_m h (hF.sI (hL _ (by decide))) (fun s8 hF h => ?_)
  obtain ⟨s9, hc, h⟩ := bp_e h
  have hF := hF.trans (fm_X12_next (hLsub hL rfl) hc)
  refine fm_X12_sentence_L48 (hLsub hL rfl) (fun s33 hF h => ?_) (fun s48 hF h => ?_) (fun s50 hF h => ?_) (fun s52 hF h => ?_) _ _ _ hF h
  · refine vl_g h (fun v34 h => ?_)
    refine ald_m h (fun _ => Fm_aI (a := 208) hF (by decide)) (fun s35 hF h => ?_)
    refine fm_X12_sentence_L146 (hLsub hL rfl) (fun s46 hF h => ?_) _ _ _ hF h
    refine vl_g h (fun v47 h => ?_)
    exact ret_mi h hF
  · refine vl_g h (fun v49 h => ?_)
    exact ret_mi h hF
  · refine vl_g h (fun v51 h => ?_)
    exact ret_mi h hF
  obtain ⟨v53, s54, hc, h⟩ := bd_e h
  have hF := hF.trans (fm_X12_bad (hLsub hL rfl) hc)
  refine vl_g h (fun v55 h => ?_)
  exact ret_mi h hF
theorem SRel_lo {σ : St} {b : Nat} {S T : Nat → Nat} (h8 : S 0 ≤ 8) (h4 : S 1 ≤ 4) (e : ∀ j, j < 178 → T j = S j) (h : SRel σ b S) : SRel σ b T := by
  obtain ⟨a1, a2, a3, a4, a5⟩ := h
  refine ⟨by rw [e _ (by decide)]; exact a1, by rw [e _ (by decide)]; exact a2, by rw [e _ (by decide)]; exact a3, fun l hl => ?_, fun k hk => ?_⟩
  · rw [e 0 (by decide)] at hl
    rw [e _ (by omega), e _ (by omega)]; exact a4 l hl
  · rw [e 1 (by decide)] at hk
    rw [e _ (by omega), e _ (by omega), e _ (by omega)]; exact a5 k hk
theorem WFW_lo {S T : Nat → Nat} (h8 : S 0 ≤ 8) (h4 : S 1 ≤ 4) (e : ∀ j, j < 178 → T j = S j) (h : WFW S) : WFW T := by
  obtain ⟨a1, a2, a3, a4, a5⟩ := h
  refine ⟨by rw [e _ (by decide)]; exact a1, by rw [e _ (by decide), e _ (by decide)]; exact a2, by rw [e _ (by decide)]; exact a3, fun l hl => ?_, fun k hk => ?_⟩
  · rw [e 0 (by decide)] at hl
    rw [e _ (by omega), e _ (by omega)]; exact a4 l hl
  · rw [e 1 (by decide)] at hk
    rw [e _ (by omega), e _ (by omega), e _ (by omega)]; exact a5 k hk
/-- another speech in the model's row -/
theorem KRel_sp {σ τ τ' : St} {S : Nat → Nat} {u top : Nat} {H : Nat → Nat → Nat} (h : KRel σ τ S u top H) (e8 : ∀ j, j < 178 → τ'.1 208 j = τ.1 208 j) (e24 : τ'.1 206 24 = τ.1 206 24) (e13 : τ'.1 213 = τ.1 213) : ∃ S', KRel σ τ' S' u top H ∧ ∀ j, j < 178 → S' j = S j := by
  obtain ⟨h1, h2, h3, h4, h5, h6, h7, g1, g2, g3, g4, g5, g6⟩ := h
  have c1 := h2.1
  have c2 := h2.2.1
  let S' : Nat → Nat := fun j => if j < 178 then S j else (nI_all (τ'.1 208 j)).choose
  have lo : ∀ j, j < 178 → S' j = S j := fun j hj => if_pos hj
  have sc : sameC S S' := fun j hj => lo j (by omega)
  refine ⟨S', ⟨fun j hj => ?_, WFC_c sc h2, WFW_lo c1 c2 lo h3, by rw [lo 147 (by decide)]; exact h4, CRel_c sc h2 h5, ARel_c sc h2 h6, SRel_lo c1 c2 lo h7, g1, g2, g3, g4, by rw [e24]; exact g5, fun i hi => ?_⟩, lo⟩
  · by_cases q : j < 178
    · rw [lo j q, e8 j q]; exact h1 j hj
    · show _ = nI (if j < 178 then S j else (nI_all (τ'.1 208 j)).choose)
      rw [if_neg q]
      exact (nI_all (τ'.1 208 j)).choose_spec
  · obtain ⟨x1, x2, x3, x4⟩ := g6 i hi
    have lm : ∀ j, j < 178 → mix S' (H i) j = mix S (H i) j := fun j hj => by
      unfold mix
      by_cases q : 147 ≤ j ∧ j < 178
      · rw [if_pos q, if_pos q]
      · rw [if_neg q, if_neg q]; exact lo j hj
    have m0 : mix S (H i) 0 = S 0 := mix_o (Or.inl (by decide))
    have m1 : mix S (H i) 1 = S 1 := mix_o (Or.inl (by decide))
    exact ⟨SRel_lo (by rw [m0]; exact c1) (by rw [m1]; exact c2) lm x1, WFW_lo (by rw [m0]; exact c1) (by rw [m1]; exact c2) lm x2, by rw [lm 147 (by decide)]; exact x3, by rw [e13]; exact x4⟩
theorem k_sentence {σ τ : St} {S B : Nat → Nat} {u top N n : Nat} {H : Nat → Nat → Nat} (hN : 1000 ≤ N) (hK : KRel σ τ S u top H) (hT : TapR σ τ n B) (hNm : NmR σ τ 4 0 (S 0) ∧ NmR σ τ 5 8 (S 1)) (hR : RvR τ) : (∃ r σ' τ', f_X11_sentence N σ = some (r, σ') ∧ f_X12_sentence N τ = some (r, τ') ∧ (σ'.1 0 15 = τ'.1 206 15 ∧ σ'.1 1 1 = nI 0 ∧ τ'.1 206 2 = nI 0) ∧ MqS τ τ' ∧ (∀ k, k ≠ 15 → σ'.1 0 k = σ.1 0 k) ∧ Fr [0, 1, 7] σ σ' ∧ KRel σ' τ' S u top H) ∨ ∃ r σ' τ' S' c K, f_X11_sentence N σ = some (r, σ') ∧ f_X12_sentence N τ = some (r, τ') ∧ (σ'.1 0 15 = τ'.1 206 15 ∧ σ'.1 1 1 = nI 0 ∧ τ'.1 206 2 = nI 0) ∧ (∀ b, b ≠ 206 → b ≠ 208 → b ≠ 210 → b ≠ 220 → τ'.1 b = τ.1 b ∧ τ'.2 b = τ.2 b) ∧ (∀ k, k ≠ 15 → σ'.1 0 k = σ.1 0 k) ∧ (KRel σ' τ' S' u top H ∧ ∀ j, j < 178 → S' j = S j) ∧ SpR σ' τ' (S 0) (S 1) c K ∧ rpn K c 1 := by
  have hC : ChN σ τ (S 0) (S 1) := ⟨hK.2.2.2.2.1.1, hK.2.1.1, hK.2.2.2.2.1.2.1, hK.2.1.2.1, hNm.1, hNm.2, hK.1 0 (by decide), hK.1 1 (by decide), hR⟩
  rcases p_sent hN hT hC with ⟨σ', τ', w, a, e1, e2, ⟨p6, p7, p15, p16, _⟩, mq⟩ | ⟨σ', τ', q, c, K, e1, e2, E, hq1, mq, y6, y15⟩
  · have fm := sent_fm e2
    have F1 : Fr [1, 7] σ σ' := fr_X7_read (R := [1, 7]) shq_66 (by decide) (by decide) e1
    have F2 : Fr [0, 1, 7] σ (sI (sI σ' 0 15 (nI w)) 1 1 (nI 0)) := fun j hj => by
      have j0 : j ≠ 0 := fun e => hj (by rw [e]; decide)
      have j1 : j ≠ 1 := fun e => hj (by rw [e]; decide)
      have := F1 j (fun w => hj (by simp only [List.mem_cons, List.mem_nil_iff, or_false] at w ⊢; omega))
      exact ⟨by rw [sI_ne j1, sI_ne j0]; exact this.1, this.2⟩
    have K2 : KRel σ τ' S u top H := KRel_m hK (mq 208 (by decide) (by decide) (by decide)).1 (by rw [← (fm 24 (by decide)).1, tk_n (by decide) (by decide) (by decide) (by decide) (by decide)]) (mq 213 (by decide) (by decide) (by decide)).1
    refine Or.inl ⟨-1 - nI a, sI (sI σ' 0 15 (nI w)) 1 1 (nI 0), τ', ?_, e2, ⟨?_, ?_, ?_⟩, mq, fun k hk => ?_, F2, KRel_5 K2 F2 (by decide) (by decide) (fun k hk => ?_)⟩
    · unfold f_X11_sentence f_X11_closeText
      rw [e1, bd_q, vl_q, vl_q, vl_q, p6, bp_q, if_pos (by decide), vl_q, sI1, if_pos rfl, if_neg (by decide), sI_ne (by decide), p7]
    · rw [sI_ne (by decide), sI1, if_pos rfl, if_pos rfl, p15]
    · rw [sI1, if_pos rfl, if_pos rfl]
    · rw [← (fm 2 (by decide)).1, tk_2]
    · rw [sI_ne (by decide), sI1, if_pos rfl, if_neg hk, (F1 0 (by decide)).1]
    · simp only [List.mem_cons, List.mem_nil_iff, or_false]; omega
  · have F1 : Fr [1, 7] σ σ' := fr_X7_read (R := [1, 7]) shq_66 (by decide) (by decide) e1
    obtain ⟨a1, ⟨b1, b2, b3⟩, ⟨c1, c2, c3⟩, d1, cq⟩ := id E
    have cl : ∀ b, b ≠ 0 → b ≠ 1 → (sI (sI σ' 0 15 (nI 0)) 1 1 (nI 0)).1 b = σ'.1 b := fun b b0 b1 => by rw [sI_ne b1, sI_ne b0]
    obtain ⟨t, g1, g2, g3, g4, g5, g6⟩ := c_copySaid (sI (sI σ' 0 15 (nI 0)) 1 1 (nI 0))
    have rC : f_X11_sentence N σ = some (nI q, t) := by
      unfold f_X11_sentence f_X11_closeText
      rw [e1, bd_q, vl_q, vl_q, vl_q, y6, bp_q, if_one, g1, bp_q, vl_q, g2, cl 66 (by decide) (by decide), b1]
    have h44 : (sI τ' 208 178 (nI c)).1 206 44 = nI c := by rw [sI_ne (by decide)]; exact c2
    obtain ⟨t2, x1, x2, x3, x4⟩ := m_L146 (N := N) (s := sI τ' 208 178 (nI c)) (k38 := fun (s46 : St) => vl (s46.1 206 45) fun v47 => some (v47, s46)) h44 c3 N 0 _ (Nat.zero_le _) (by omega) (fun _ _ => rfl) rfl (fun j => by rw [if_neg (by omega)])
    have rM : f_X12_sentence N τ = some (nI q, t2) := by
      rw [e2]
      unfold k12S
      rw [vl_q, c2, ald_q (by decide) (by decide), x1, vl_q, x2 206 (by decide), sI_ne (by decide), b2]
    have fm := sent_fm rM
    have o8 : ∀ b, b ≠ 208 → t2.1 b = τ'.1 b := fun b hb => (x2 b hb).trans (sI_ne hb)
    have r8 : ∀ j, t2.1 208 j = if 179 ≤ j ∧ j < 179 + 3 * c then τ'.1 210 (j - 179) else if j = 178 then nI c else τ'.1 208 j := fun j => by
      rw [x4, sI_ne (show 210 ≠ 208 by decide), sI1, if_pos rfl]
    have F2 : Fr [0, 1, 6, 7] σ t := fun j hj => by
      have j0 : j ≠ 0 := fun e => hj (by rw [e]; decide)
      have j1 : j ≠ 1 := fun e => hj (by rw [e]; decide)
      have j2 : j ≠ 61 := fun e => hj (by rw [e]; decide)
      have j3 : j ≠ 62 := fun e => hj (by rw [e]; decide)
      have j4 : j ≠ 63 := fun e => hj (by rw [e]; decide)
      have j5 : j ≠ 64 := fun e => hj (by rw [e]; decide)
      have := F1 j (fun w => hj (by simp only [List.mem_cons, List.mem_nil_iff, or_false] at w ⊢; omega))
      exact ⟨by rw [g5 j j2 j3 j4 j5, cl j j0 j1]; exact this.1, by rw [g6]; exact this.2⟩
    have K1 : KRel t τ S u top H := KRel_5 hK F2 (by decide) (by decide) (fun k hk => by simp only [List.mem_cons, List.mem_nil_iff, or_false]; omega)
    obtain ⟨S', K2, lo⟩ := KRel_sp (τ' := t2) K1 (fun j hj => by rw [r8, if_neg (by omega), if_neg (by omega), (mq 208 (by decide) (by decide) (by decide)).1]) (by rw [← (fm 24 (by decide)).1, tk_n (by decide) (by decide) (by decide) (by decide) (by decide)]) (by rw [o8 213 (by decide), (mq 213 (by decide) (by decide) (by decide)).1])
    refine Or.inr ⟨nI q, t, t2, S', c, K, rC, rM, ⟨?_, ?_, ?_⟩, fun b b1 b2 b3 b4 => ?_, fun k hk => ?_, ⟨K2, lo⟩, ⟨⟨q, ?_, b3, ?_⟩, ?_, ?_, c3, fun i hi => ?_⟩, d1⟩
    · rw [g5 0 (by decide) (by decide) (by decide) (by decide), sI_ne (by decide), sI1, if_pos rfl, if_pos rfl, o8 206 (by decide), y15]
    · rw [g5 1 (by decide) (by decide) (by decide) (by decide), sI1, if_pos rfl, if_pos rfl]
    · rw [← (fm 2 (by decide)).1, tk_2]
    · refine ⟨(o8 b b2).trans (mq b b1 b3 b4).1, ?_⟩
      rw [x3]
      exact (mq b b1 b3 b4).2
    · rw [g5 0 (by decide) (by decide) (by decide) (by decide), sI_ne (by decide), sI1, if_pos rfl, if_neg hk, (F1 0 (by decide)).1]
    · rw [g2, cl 66 (by decide) (by decide)]; exact b1
    · have c0 : c ≠ 0 := fun w => by
        rw [w] at d1
        have d2 : (1 : Nat) = 0 := d1
        omega
      exact ⟨fun w => by omega, fun w => absurd w c0⟩
    · rw [g3, cl 66 (by decide) (by decide)]; exact c1
    · rw [r8, if_neg (by omega), if_pos rfl]
    · obtain ⟨u, v, z1, z2, z3, z4, z5, z6, z7, z8, z9, w1, w2, w3⟩ := cq i hi
      obtain ⟨q1, q2, q3⟩ := g4 i (by omega)
      refine ⟨u, v, z1, z2, z3, z4, z5, z6, ?_, ?_, ?_, ?_, ?_, ?_⟩
      · rw [q1, cl 67 (by decide) (by decide)]; exact z7
      · rw [q2, cl 68 (by decide) (by decide)]; exact z8
      · rw [q3, cl 69 (by decide) (by decide)]; exact z9
      · rw [r8, if_pos (by omega), show 179 + 3 * i - 179 = 3 * i by omega]; exact w1
      · rw [r8, if_pos (by omega), show 179 + 3 * i + 1 - 179 = 3 * i + 1 by omega]; exact w2
      · rw [r8, if_pos (by omega), show 179 + 3 * i + 2 - 179 = 3 * i + 2 by omega]; exact w3
