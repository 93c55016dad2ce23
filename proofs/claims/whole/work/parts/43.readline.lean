/-! the other lines of a chart: both sides -/
/-- light l alone is told anew -/
theorem DR_l {σ σ' τ τ' : St} {h h' : Nat → Nat} {g g' l : Nat} (D : DR σ τ h g) (hl : l < h 0) (hc : ∀ b, b ≠ 29 + 2 * l → b ≠ 30 + 2 * l → b ≠ 1 → b ≠ 2 → σ'.1 b = σ.1 b) (hc2 : ∀ b, b ≠ 1 → σ'.2 b = σ.2 b) (hB : (σ'.1 (29 + 2 * l) 7 = nI 0 ∨ σ'.1 (29 + 2 * l) 7 = nI 1) ∧ ∀ p, p < 160 → σ'.1 (30 + 2 * l) p = nI 0 ∨ σ'.1 (30 + 2 * l) p = nI 1) (hR : RH h' τ') (m12 : τ'.2 212 = τ.2 212) (m11 : τ'.2 211 = τ.2 211) (m21 : τ'.1 206 21 = τ.1 206 21) (m20 : τ'.1 206 20 = nI g') (hg : g' < 2 ^ h 0 ∧ g' < 256) (e0 : h' 0 = h 0) (e1 : h' 1 = h 1) (e2 : h' 2 = h 2) (ea : ∀ m, m < 8 → m ≠ l → agr h h' m) (es : ∀ k, k < 4 → h' (131 + k) = h (131 + k) ∧ h' (135 + k) = h (135 + k) ∧ h' (139 + k) = h (139 + k) ∧ h' (143 + k) = h (143 + k)) (w : WFl h' l) (r : LRel σ' (29 + 2 * l) h' l) (f7 : σ'.1 (29 + 2 * l) 7 = nI (g' / 2 ^ l % 2)) (gb : ∀ m, m < 8 → m ≠ l → g' / 2 ^ m % 2 = g / 2 ^ m % 2) : DR σ' τ' h' g' := by
  obtain ⟨⟨a1, a2, a3⟩, a4, ⟨b1, b2, b3⟩, ⟨c1, c2, c3⟩, c4, c5, c6, ⟨n1, n2⟩, z, z1, z2⟩ := D
  have l8 : l < 8 := by omega
  have c26 := hc 26 (by omega) (by omega) (by decide) (by decide)
  unfold DR
  rw [e0, e1, e2]
  refine ⟨⟨hR, fun i hi => by rw [m12]; exact a2 i hi, fun m hm => ?_⟩, a4, ⟨by rw [c26]; exact b1, by rw [c26]; exact b2, by rw [c26]; exact b3⟩, ⟨m20, hg⟩, fun m hm => ?_, fun m h1 h2 => ?_, fun k hk => ?_, ⟨fun m hm => ?_, fun k hk => ?_⟩, z, by rw [c26]; exact z1, by rw [m21]; exact z2⟩
  · by_cases q : m = l
    · rw [q]; exact hB
    · rw [hc (29 + 2 * m) (by omega) (by omega) (by omega) (by omega), hc (30 + 2 * m) (by omega) (by omega) (by omega) (by omega)]
      exact a3 m hm
  · by_cases q : m = l
    · rw [q]; exact ⟨w, r, f7⟩
    · obtain ⟨x1, x2, x3⟩ := c4 m hm
      have y1 := hc (29 + 2 * m) (by omega) (by omega) (by omega) (by omega)
      have y2 := hc (30 + 2 * m) (by omega) (by omega) (by omega) (by omega)
      exact ⟨WFl_a (ea m (by omega) q) x1, LRel_a (ea m (by omega) q) x1.2.2.2.2.2.1 (LRel_w (by omega) y1 y2 x2), by rw [y1, gb m (by omega) q]; exact x3⟩
  · have ag := ea m h2 (by omega)
    rw [ag _ (by unfold idxL; omega), ag _ (by unfold idxL; omega), ag _ (by unfold idxL; omega)]
    exact c5 m h1 h2
  · obtain ⟨x1, x2⟩ := c6 k hk
    obtain ⟨s1, s2, s3, s4⟩ := es k (by omega)
    unfold WFs HRel at *
    rw [s1, s2, s3, s4, hc (45 + k) (by omega) (by omega) (by omega) (by omega)]
    exact ⟨x1, x2⟩
  · obtain ⟨c, d, w, x1, x2⟩ := n1 m hm
    rw [d27 (by omega)] at x1 ⊢
    exact ⟨c, d, w, by rw [hc2 _ (by omega)]; exact x1, by rw [m11]; exact x2⟩
  · obtain ⟨c, d, w, x1, x2⟩ := n2 k hk
    rw [d28 (by omega)] at x1 ⊢
    exact ⟨c, d, w, by rw [hc2 _ (by omega)]; exact x1, by rw [m11]; exact x2⟩
theorem N12_K {τ τ1 τ2 : St} {ks : List Nat} (h : N12 τ τ1) (g : FK 206 ks τ1 τ2) : N12 τ τ2 := fun j hj => by rw [(g.1 211 (by decide)).2]; exact h j hj
/-- where the bad end of a name's look-up leads -/
theorem LnE_badN {σ τ σ1 τ1 : St} {n L b0 : Nat} {B : Nat → Nat} {x y x' y' : Option (Int32 × St)} (h : BadN σ1 τ1 x y) (hn : N12 τ τ1) (hB : DBl σ1) (hx : ∀ s, x = some (-1, s) → x' = some (nI 0, s)) (hy : ∀ s, y = some (nI 0, s) → y' = some (nI 0, s)) : LnE σ τ n L B b0 x' y' := by
  obtain ⟨σ', τ', w, a, e1, e2, f, g1, g2⟩ := h
  exact Or.inl ⟨σ', τ', w, a, hx _ e1, hy _ e2, f, N12_K hn g2, DBl_K hB g1⟩
theorem if_one {T : Type} {X Y : T} : (if nI 1 = 0 then X else Y) = Y := if_neg (by decide)
section Lines
variable {σ τ : St} {N n L k a b c d v g : Nat} {h B : Nat → Nat}
/-- the word of the line is passed, then a light is named -/
theorem p_named (hN : 1000 ≤ N) (H : PR σ τ n L B k a b c d v) (hk : k = 1) (D : DR σ τ h g) : ∃ σ1 τ1, f_X9_next N σ = some σ1 ∧ f_X12_next N τ = some τ1 ∧ τ1.1 209 0 = nI (h 0) ∧ (N12 τ τ1 ∧ DBl σ1) ∧ (BadN σ1 τ1 (f_X1_lightAt N 26 σ1) (f_X12_looksAt N (nI 12) (nI (h 0)) τ1) ∨ ∃ l k1 a1 b1 c1 d1 v1, l < h 0 ∧ f_X1_lightAt N 26 σ1 = some (nI l, σ1) ∧ f_X12_looksAt N (nI 12) (nI (h 0)) τ1 = some (nI 1, sI τ1 206 18 (nI l)) ∧ PR σ1 (sI τ1 206 18 (nI l)) n L B k1 a1 b1 c1 d1 v1 ∧ k1 = 1 ∧ b < b1 ∧ DR σ1 (sI τ1 206 18 (nI l)) h g ∧ N12 τ (sI τ1 206 18 (nI l)) ∧ σ1.1 26 5 = σ.1 26 5 ∧ (sI τ1 206 18 (nI l)).1 206 19 = τ.1 206 19 ∧ (sI τ1 206 18 (nI l)).1 206 18 = nI l) := by
  obtain ⟨σ1, τ1, e1, e2, f1, f2, k1, aa1, bb1, cc1, dd1, v1, P1, l1⟩ := p_next hN H (Or.inl hk)
  have D1 := DR_K D f1 f2 (by decide) (by decide)
  obtain ⟨⟨a1', a2', a3'⟩, a4', ⟨b1', b2', b3'⟩, _, _, _, _, ⟨nn1, nn2⟩, _⟩ := id D1
  have n1 : N12 τ τ1 := N12_K (fun _ _ => rfl) f2
  refine ⟨σ1, τ1, e1, e2, a1' 0 (by decide), ⟨n1, D1.1.2.2⟩, ?_⟩
  rcases p_lightAt (ch := 26) (f := 12) (m := h 0) hN a2' P1 b1' a4'.1 (by omega) (by rw [d26.1]; exact nn1) with bad | ⟨kk, l, hl, q1, q2⟩
  · exact Or.inl bad
  · have f3 : FK 206 [18] τ1 (sI τ1 206 18 (nI l)) := FK.rf.sI (by decide)
    exact Or.inr ⟨l, k1, aa1, bb1, cc1, dd1, v1, hl, q1, q2, PR_K P1 (FK.rf (ks := [])) (fun x hx => absurd hx List.not_mem_nil) f3 (by decide), kk, l1 (Or.inl kk), DR_K D1 (FK.rf (ks := [])) f3 (by decide) (by decide), n1, by rw [(f1.1 26 (by decide)).1], by rw [sI1, if_pos rfl, if_neg (by decide)]; exact (f2.2 19 (by decide)).1, by rw [sI1, if_pos rfl, if_pos rfl]⟩
theorem p_readFlash (hN : 1000 ≤ N) (H : PR σ τ n L B k a b c d v) (hk : k = 1) (D : DR σ τ h g) : LnE σ τ n L B b (f_X1_readFlash N 26 σ) (f_X12_readFlash N τ) := by
  obtain ⟨σ1, τ1, e1, e2, r0, ⟨n1, hB1⟩, rest⟩ := p_named hN H hk D
  unfold f_X1_readFlash f_X12_readFlash
  rw [e1, e2, bp_q, bp_q, ald_q (by decide) (by decide), r0]
  rcases rest with bad | ⟨l, k1, aa1, bb1, cc1, dd1, v1, hl, q1, q2, P1, kk1, bl, D1, n2, x5, x19, t18⟩
  · exact LnE_badN bad n1 hB1 (fun s e => by rw [e, bd_q, if_pos rfl]) (fun s e => by rw [e, bd_q, if_pos (by decide)])
  have l8 : l < 8 := by have := D.2.1.1; omega
  obtain ⟨w1, r1, f7⟩ := D1.2.2.2.2.1 l hl
  have hK := w1.2.2.2.2.2.1
  have h9 : σ1.1 (29 + 2 * l) 9 = nI (h (43 + l)) := r1.2.2.2.2.2.2.2.1
  have h43 : (sI τ1 206 18 (nI l)).1 209 (43 + l) = nI (h (43 + l)) := D1.1.1 _ (by omega)
  rw [q1, bd_q, if_nm1 (by omega), d26.1, ald_q l8 (by decide), d27 l8, vl_q, h9, q2, bd_q, if_one, vl_q, t18, nI_addq, ald_q (by omega) (by decide), h43, if_ltq (by omega) (by decide), if_eqq (by omega) (by decide)]
  by_cases m4 : h (43 + l) < 4
  · obtain ⟨σ3, τ3, g1, g2, f3, f4, k3, aa3, bb3, cc3, dd3, v3, P3, l3⟩ := p_next hN P1 (Or.inl kk1)
    have D3 := DR_K D1 f3 f4 (by decide) (by decide)
    have n3 := N12_K n2 f4
    rw [if_pos m4, if_neg (by omega), g1, g2, bp_q, bp_q, nI_mulq, nI_addq, nI_addq, nI_addq, nI_addq]
    rcases p_puts (lo := 1) (hi := 20) (j := 51 + 4 * l + h (43 + l)) hN (by decide) (by decide) (by omega) P3 with bad | ⟨u1, u2, σ4, τ4, q3, q4, ⟨kk3, ad4, ff3, ff4⟩, t5⟩
    · exact LnE_bad bad n3 (fun s e => by rw [e, bd_q, if_pos (by decide)]) (fun s e => by rw [e, bd_q, if_pos (by decide)])
    obtain ⟨k4, aa4, bb4, cc4, dd4, v4, P4, l4⟩ := AdvT_c ad4 (σ' := σ4) (τ' := sI τ4 209 (51 + 4 * l + h (43 + l)) (nI v3)) rfl rfl rfl (sI_ne (by decide)) (sI_ne (by decide)) rfl
    have D4 := DR_K D3 ff3 ff4 (by decide) (by decide)
    have n4 := N12_K n3 ff4
    rw [q3, bd_q, if_neg (by decide), vl_q, t5, q4, bd_q, if_neg (by decide)]
    rcases p_puts (lo := 1) (hi := 20) (j := 83 + 4 * l + h (43 + l)) hN (by decide) (by decide) (by omega) P4 with bad | ⟨u3, u4, σ5, τ5, q5, q6, ⟨kk4, ad5, ff5, ff6⟩, t6⟩
    · exact LnE_bad bad n4 (fun s e => by rw [e, bd_q, if_pos (by decide)]) (fun s e => by rw [e, bd_q, if_pos (by decide)])
    have e5 : ∀ b, b ≠ 1 → σ5.1 b = σ4.1 b ∧ σ5.2 b = σ4.2 b := ff5.1
    have R5 : LRel σ5 (29 + 2 * l) h l := LRel_w l8 (e5 _ (by omega)).1 (e5 _ (by omega)).1 (D4.2.2.2.2.1 l hl).2.1
    obtain ⟨σ6, g5, g6, g7, g8, g9, g10⟩ := c_flash (σ := σ5) (h := h) (N := N) (on := v3) (off := v4) hN l8 m4 w1 R5 ⟨u1, u2⟩ ⟨u3, u4⟩
    have e209 : ∀ j, τ5.1 209 j = if j = 51 + 4 * l + h (43 + l) then nI v3 else τ4.1 209 j := fun j => by
      rw [(ff6.1 209 (by decide)).1, sI1, if_pos rfl]
    have a9 : (sI τ5 209 (83 + 4 * l + h (43 + l)) (nI v4)).1 209 (43 + l) = nI (h (43 + l)) := by
      rw [sI1, if_pos rfl, if_neg (by omega), e209, if_neg (by omega)]
      exact D4.1.1 _ (by omega)
    rw [q5, bd_q, if_neg (by decide), ald_q l8 (by decide), d27 l8, vl_q, t6, g5, bp_q, q6, bd_q, if_neg (by decide), ald_q (by omega) (by decide), a9, nI_addq, ald_q (by omega) (by decide)]
    obtain ⟨fa1, fa2, fa3, fa4⟩ := fl_at (h := h) (on := v3) (off := v4) l8 m4
    have ea : ∀ m, m < 8 → m ≠ l → agr h (flT h l v3 v4) m := fun m hm hne j hj => by
      unfold idxL at hj
      exact fa4 j (by omega) (by omega) (by omega)
    obtain ⟨y1, y2, y3⟩ := D4.2.2.2.2.1 l hl
    have yb := D4.1.2.2 l l8
    have D6 : DR σ6 (sI (sI τ5 209 (83 + 4 * l + h (43 + l)) (nI v4)) 209 (43 + l) (nI (h (43 + l) + 1))) (flT h l v3 v4) g := by
      refine DR_l D4 hl (fun b b1 b2 b3 b4 => by rw [g7 b b1 b2]; exact (e5 b b3).1) (fun b b3 => by rw [g8]; exact (e5 b b3).2) ⟨?_, fun p hp => ?_⟩ ?_ ?_ ?_ ?_ ?_ ⟨D4.2.2.2.1.2.1, D4.2.2.2.1.2.2⟩ (fa4 0 (by omega) (by omega) (by omega)) (fa4 1 (by omega) (by omega) (by omega)) (fa4 2 (by omega) (by omega) (by omega)) ea (fun k hk => ⟨fa4 _ (by omega) (by omega) (by omega), fa4 _ (by omega) (by omega) (by omega), fa4 _ (by omega) (by omega) (by omega), fa4 _ (by omega) (by omega) (by omega)⟩) (fl_WFl l8 m4 w1 ⟨u1, u2⟩ ⟨u3, u4⟩) g6 ?_ (fun _ _ _ => rfl)
      · rw [g9, (e5 _ (by omega)).1]; exact yb.1
      · rcases g10 p with z | z | z
        · rw [z, (e5 _ (by omega)).1]; exact yb.2 p hp
        · exact Or.inl z
        · exact Or.inr z
      · intro j hj
        rw [sI1, if_pos rfl]
        by_cases z1 : j = 43 + l
        · rw [if_pos z1, z1, fa1]
        · rw [if_neg z1, sI1, if_pos rfl]
          by_cases z2 : j = 83 + 4 * l + h (43 + l)
          · rw [if_pos z2, z2, fa3]
          · rw [if_neg z2, e209]
            by_cases z3 : j = 51 + 4 * l + h (43 + l)
            · rw [if_pos z3, z3, fa2]
            · rw [if_neg z3, fa4 j z1 z3 z2]; exact D4.1.1 j hj
      · rw [sI2, sI2, (ff6.1 212 (by decide)).2]; rfl
      · rw [sI2, sI2, (ff6.1 211 (by decide)).2]; rfl
      · rw [sI1, if_neg (by decide), sI1, if_neg (by decide), (ff6.2 21 (by decide)).1]; rfl
      · rw [sI1, if_neg (by decide), sI1, if_neg (by decide), (ff6.2 20 (by decide)).1]; exact D4.2.2.2.1.1
      · rw [g9, (e5 _ (by omega)).1]; exact y3
    have ad6 := AdvT_c ad5 (σ' := σ6) (τ' := sI (sI τ5 209 (83 + 4 * l + h (43 + l)) (nI v4)) 209 (43 + l) (nI (h (43 + l) + 1))) (g7 1 (by omega) (by omega)) (g7 2 (by omega) (by omega)) (by rw [g8]) ((sI_ne (by decide)).trans (sI_ne (by decide))) ((sI_ne (by decide)).trans (sI_ne (by decide))) rfl
    have bq : b ≤ bb4 := by
      have := l3 (Or.inr (Or.inl kk3))
      have := l4 (Or.inr (Or.inl kk4))
      omega
    refine Or.inr ⟨_, _, _, g, rfl, rfl, D6, AdvT_mono ad6 bq, fun j hj => ?_, ?_, ?_⟩
    · show τ5.2 211 j = _
      rw [(ff6.1 211 (by decide)).2]
      exact n4 j hj
    · rw [g7 26 (by omega) (by omega), (e5 26 (by decide)).1, (ff3.1 26 (by decide)).1, (f3.1 26 (by decide)).1]; exact x5
    · rw [sI1, if_neg (by decide), sI1, if_neg (by decide), (ff6.2 19 (by decide)).1, sI1, if_neg (by decide), (ff4.2 19 (by decide)).1, (f4.2 19 (by decide)).1]; exact x19
  · rw [if_neg m4, if_pos (by omega)]
    exact LnE_bad (p_bad2 (w := 4) P1 (by decide) (fun s e => e) (fun s e => e)) n2 (fun s e => by rw [e, bd_q, rz_0]) (fun s e => by rw [e, bd_q, rz_0])
end Lines
