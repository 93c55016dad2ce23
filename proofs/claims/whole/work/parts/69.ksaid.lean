/-! said: the law's call -/
theorem ge_m1 {x : Int32} (h : -1 ≤ x) (hn : x ≠ -1) : ∃ y, y < 2147483648 ∧ x = nI y := by
  have e1 : (-1 : Int32).toInt = -1 := by decide
  have h1 : (-1 : Int32).toInt ≤ x.toInt := Int32.le_iff_toInt_le.mp h
  have h2 : x.toInt ≠ -1 := fun w => hn (Int32.toInt_inj.mp (w.trans e1.symm))
  have h3 := Int32.toInt_lt x
  rw [e1] at h1
  refine ⟨x.toInt.toNat, by omega, ?_⟩
  apply Int32.toInt_inj.mp
  rw [nI_toInt (by omega)]
  omega
section Ks
variable {S : Nat → Nat} {τ : St} {N c : Nat} {K U V : Nat → Nat}
theorem m_saidC {k7 : Int32 → St → Option (Int32 × St)} (hN : 1000 ≤ N) (hR : RS S τ) (hC : WFC S) (hW : WFW S) (h178 : τ.1 208 178 = nI c) (hc : c ≤ 40) (hQ : CdM τ S c K U V) (hr : rpn K c 1) : ∀ F l (s : St), l ≤ S 0 → S 0 - l < F → (∀ b, b ≠ 221 → s.1 b = τ.1 b) → s.2 = τ.2 → ∃ s', f_X12_said_L27 N (-1) k7 F (nI (cntN (fun l => btA l (evP S K U V c 0)) l)) (nI l) s = k7 (nI (cntN (fun l => btA l (evP S K U V c 0)) (S 0))) s' ∧ (∀ b, b ≠ 221 → s'.1 b = τ.1 b) ∧ s'.2 = τ.2 := by
  have c1 := hC.1
  intro F
  induction F with
  | zero => intro l s _ h; omega
  | succ F ih =>
    intro l s hl hF ho h2
    have cl := cntN_le (fun l => btA l (evP S K U V c 0)) l
    rw [f_X12_said_L27, ald_q (by decide) (by decide), ho 208 (by decide), hR 0 (by decide), if_leq (by omega) (by omega)]
    by_cases z : S 0 ≤ l
    · rw [if_pos z]
      obtain rfl : l = S 0 := by omega
      exact ⟨s, rfl, ho, h2⟩
    · obtain ⟨s1, e, g1, g2⟩ := m_isSaid hN hR hC hW (show l < S 0 by omega) h178 hc hQ hr ho h2
      rw [if_neg z, e, bd_q]
      refine ex_eq (jn_q _ _) ?_
      have := ih (l + 1) s1 (by omega) (by omega) g1 g2
      rw [if_bI]
      by_cases b : btA l (evP S K U V c 0) = true
      · rw [if_pos b, if_nm1 (by omega), vl_q, nI_addq]
        dsimp only
        rw [vl_q, nI_addq]
        simp only [cntN, b, if_true] at this
        exact this
      · rw [if_neg b]
        dsimp only
        rw [vl_q, nI_addq]
        simp only [cntN, b, Nat.add_zero] at this
        exact this
end Ks
theorem k_said {σ τ : St} {S K : Nat → Nat} {u top N c : Nat} {H : Nat → Nat → Nat} (hN : 1000 ≤ N) (hK : KRel σ τ S u top H) (hP : SpR σ τ (S 0) (S 1) c K) (hr : c = 0 ∨ rpn K c 1) (x : Int32) : ∃ r σ' τ', f_X11_said N x σ = some (r, σ') ∧ f_X12_said N x τ = some (r, τ') ∧ (∀ b, b ≠ 65 → σ'.1 b = σ.1 b) ∧ σ'.2 = σ.2 ∧ (∀ b, b ≠ 221 → τ'.1 b = (sI τ 206 0 (nI 0)).1 b) ∧ τ'.2 = τ.2 := by
  obtain ⟨h1, h2, h3, h4, h5, h6, h7, h8⟩ := hK
  obtain ⟨⟨q, q1, q20, qc⟩, p1, p2, p40, pq⟩ := hP
  have c1 := h2.1
  have t178 : (sI τ 206 0 (nI 0)).1 208 178 = nI c := by rw [sI_ne (by decide)]; exact p2
  unfold f_X11_said f_X12_said
  rw [vl_q, q1, if_eq0 (by omega), vl_q, ald_q (by decide) (by decide), t178, if_eq0 (by omega)]
  by_cases c0 : c = 0
  · rw [if_pos (qc.mpr c0), if_pos c0]
    exact ⟨-1, σ, _, rfl, rfl, fun _ _ => rfl, rfl, fun _ _ => rfl, rfl⟩
  have hr' : rpn K c 1 := hr.resolve_left c0
  rw [if_neg (fun w => c0 (qc.mp w)), if_neg c0]
  by_cases hx : -1 ≤ x
  · rw [if_pos hx, if_pos hx]
    have ex : ∀ i, ∃ uv : Nat × Nat, i < c → K i ≤ 11 ∧ uv.1 ≤ 999 ∧ uv.2 ≤ 999 ∧ (K i = 6 → uv.2 < S 0) ∧ (K i = 7 → uv.2 < S 1) ∧ (8 ≤ K i → 60 ≤ uv.1 ∧ uv.1 ≤ 62) ∧ σ.1 62 i = nI (K i) ∧ σ.1 63 i = nI uv.1 ∧ σ.1 64 i = nI uv.2 ∧ τ.1 208 (179 + 3 * i) = nI (mKd (K i)) ∧ τ.1 208 (179 + 3 * i + 1) = nI uv.1 ∧ τ.1 208 (179 + 3 * i + 2) = nI uv.2 := fun i => by
      by_cases h : i < c
      · obtain ⟨a, b, r⟩ := pq i h
        exact ⟨(a, b), fun _ => r⟩
      · exact ⟨(0, 0), fun w => absurd w h⟩
    obtain ⟨f, hf⟩ := Classical.axiomOfChoice ex
    have hQ : CdC σ S c K (fun i => (f i).1) (fun i => (f i).2) := fun i hi => by
      obtain ⟨a1, a2, a3, a4, a5, a6, a7, a8, a9, _⟩ := hf i hi
      exact ⟨a1, a2, a3, a4, a5, a6, a7, a8, a9⟩
    have hM : CdM (sI τ 206 0 (nI 0)) S c K (fun i => (f i).1) (fun i => (f i).2) := fun i hi => by
      obtain ⟨a1, a2, a3, a4, a5, a6, _, _, _, b1, b2, b3⟩ := hf i hi
      refine ⟨a1, a2, a3, a4, a5, a6, ?_⟩
      rw [sI_ne (by decide)]
      exact ⟨b1, b2, b3⟩
    have R0 : RS S (sI τ 206 0 (nI 0)) := RS_o h1 (fun j => by rw [sI_ne (by decide)])
    have hA := evP_lt S K (fun i => (f i).1) (fun i => (f i).2) c 0
    have hA8 : evP S K (fun i => (f i).1) (fun i => (f i).2) c 0 < 256 := Nat.lt_of_lt_of_le hA (Nat.pow_le_pow_right (by decide) c1)
    obtain ⟨s', e, g1, g2, g3⟩ := c_saidL (k6 := fun (v34 : Int32) (s35 : St) => if v34 ≤ 0 then some ((nI 0), s35) else ald (s35.1 (rr 61 5)) 40 (nI 0) fun v36 => some (v36, s35)) hN h5 h6 h7 h2 h3 p1 p40 hQ hr' N 0 σ (Nat.zero_le _) (by omega) (fun _ _ => rfl) rfl (fun j hj => absurd hj (Nat.not_lt_zero _))
    have ht := (rpn_h hr').1
    rw [ht] at e g3
    have sO : f_X7_saidOf N 61 49 σ = some (nI (evP S K (fun i => (f i).1) (fun i => (f i).2) c 0), s') := by
      unfold f_X7_saidOf
      refine Eq.trans e ?_
      rw [if_neg (by decide), d65, ald_q (by decide) (by decide), g3 0 (by decide)]
    rw [sO, bd_q]
    by_cases x1 : x = -1
    · obtain ⟨t', e', k1, k2⟩ := m_saidC (k7 := fun (v19 : Int32) (s20 : St) => if x = (-1) then some (v19, s20) else some ((-1), s20)) hN R0 h2 h3 t178 p40 hM hr' N 0 (sI τ 206 0 (nI 0)) (Nat.zero_le _) (by omega) (fun _ _ => rfl) rfl
      have pc : pcN (evP S K (fun i => (f i).1) (fun i => (f i).2) c 0) = cntN (fun l => btA l (evP S K (fun i => (f i).1) (fun i => (f i).2) c 0)) (S 0) := by
        have := pcN_bset (fun l => btA l (evP S K (fun i => (f i).1) (fun i => (f i).2) c 0)) c1
        rw [← this]
        congr 1
        exact (bset_self _ (by omega) _ hA).symm
      rw [if_pos x1, c_bitCount hA8, bp_q, pc]
      refine ⟨_, s', t', rfl, ?_, g1, g2, k1, k2⟩
      subst x1
      refine Eq.trans e' ?_
      rw [if_pos rfl]
    · obtain ⟨y, hy, rfl⟩ := ge_m1 hx x1
      obtain ⟨t', e', k1, k2⟩ := m_saidM (y := y) (k7 := fun (v19 : Int32) (s20 : St) => if nI y = (-1) then some (v19, s20) else some ((-1), s20)) hN R0 h2 h3 t178 p40 hM hr' hy (fun v s => if_neg x1) N 0 0 (sI τ 206 0 (nI 0)) (Nat.zero_le _) (by omega) (Nat.le_refl _) (Nat.zero_le _) (fun _ _ => rfl) rfl
      have mx := memF_x (A := evP S K (fun i => (f i).1) (fun i => (f i).2) c 0) (S 0) (8 - S 0) 0 y (fun m m1 m2 => by
        unfold btA
        rw [Nat.div_eq_of_lt (Nat.lt_of_lt_of_le hA (Nat.pow_le_pow_right (by decide) (by omega)))]
        decide)
      rw [show S 0 + (8 - S 0) = 8 by omega] at mx
      unfold f_X11_memberAt
      rw [if_neg x1, c_memL hA8 N 0 y (by decide) (by omega) hy, bp_q]
      refine ⟨_, s', t', rfl, ?_, g1, g2, k1, k2⟩
      refine Eq.trans e' ?_
      rw [Nat.sub_zero, Nat.sub_zero, Nat.sub_zero, mx]
  · rw [if_neg hx, if_neg hx]
    exact ⟨-1, σ, _, rfl, rfl, fun _ _ => rfl, rfl, fun _ _ => rfl, rfl⟩
