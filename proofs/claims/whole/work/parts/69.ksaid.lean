/-! said: the law's call -/
theorem ge_m1 {x : Int32} (h : -1 ≤ x) (hn : x ≠ -1) : ∃ y, y < 2147483648 ∧ x = nI y := by
  have e1 : (-1 : Int32).toInt = -1 := by decide
  have h1 : (-1 : Int32).toInt ≤ x.toInt := Int32.le_iff_toInt_le.mp h
  have h2 : x.toInt ≠ -1 := fun w => hn (Int32.toInt_inj.mp (w.trans e1.symm))
  have h3 := Int32.toInt_lt x
  rw [e1] at h1
  refine ⟨x.toInt.toNat, by omega, ?_⟩
  apply Int32.toInt_inj.mp
  rw [nI_toInt (by omega)]
  omega
section Ks
variable {S : Nat → Nat} {τ : St} {N c : Nat} {K U V : Nat → Nat}
theorem m_saidC {k7 : Int32 → St → Option (Int32 × St)} (hN : 1000 ≤ N) (hR : RS S τ) (hC : WFC S) (hW : WFW S) (h178 : τ.1 208 178 = nI c) (hc : c ≤ 40) (hQ : CdM τ S c K U V) (hr : rpn K c 1) : ∀ F l (s : St), l ≤ S 0 → S 0 - l < F → (∀ b, b ≠ 221 → s.1 b = τ.1 b) → s.2 = τ.2 → ∃ s', f_X12_said_L27 N (-1) k7 F (nI (cntN (fun l => btA l (evP S K U V c 0)) l)) (nI l) s = k7 (nI (cntN (fun l => btA l (evP S K U V c 0)) (S 0))) s' ∧ (∀ b, b ≠ 221 → s'.1 b = τ.1 b) ∧ s'.2 = τ.2 := by
  have c1 := hC.1
  intro F
  induction F with
  | zero => intro l s _ h; omega
  | succ F ih =>
    intro l s hl hF ho h2
    have cl := cntN_le (fun l => btA l (evP S K U V c 0)) l
    rw [f_X12_said_L27, ald_q (by decide) (by decide), ho 208 (by decide), hR 0 (by decide), if_leq (by omega) (by omega)]
    by_cases z : S 0 ≤ l
    · rw [if_pos z]
      obtain rfl : l = S 0 := by omega
      exact ⟨s, rfl, ho, h2⟩
    · obtain ⟨s1, e, g1, g2⟩ := m_isSaid hN hR hC hW (show l < S 0 by omega) h178 hc hQ hr ho h2
      rw [if_neg z, e, bd_q]
      refine ex_eq (jn_q _ _) ?_
      have := ih (l + 1) s1 (by omega) (by omega) g1 g2
      rw [if_bI]
      by_cases b : btA l (evP S K U V c 0) = true
      · rw [if_pos b, if_nm1 (by omega), vl_q, nI_addq]
        dsimp only
        rw [vl_q, nI_addq]
        simp only [cntN, b, if_true] at this
        exact this
      · rw [if_neg b]
        dsimp only
        rw [vl_q, nI_addq]
        simp only [cntN, b, Nat.add_zero] at this
        exact this
end Ks
