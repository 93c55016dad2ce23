/-! calls that only read, both sides -/
def rdE (τ : St) (a : Option Int32) (b : Option (Int32 × St)) : Prop := ∃ r, a = some r ∧ b = some (r, sI τ 206 0 (nI 0))
theorem rd_no (τ : St) (r : Int32) : rdE τ (some r) (some (r, sI τ 206 0 (nI 0))) := ⟨r, rfl, rfl⟩
theorem r49 : rr 49 4 = 50 ∧ rr 49 5 = 51 ∧ rr 49 6 = 52 ∧ rr 49 7 = 53 ∧ rr 49 8 = 54 := by decide +kernel
theorem k_ship {σ τ : St} {S : Nat → Nat} {u top N : Nat} {H : Nat → Nat → Nat} (hN : 1000 ≤ N) (hK : KRel σ τ S u top H) (x y : Int32) : rdE τ (f_X11_ship N x y σ) (f_X12_ship N x y τ) := by
  have hh := hK
  obtain ⟨h1, h2, hW, h4, h5, h6, h7, h8⟩ := hh
  have c1 := h2.1
  have c2 := h2.2.1
  have hR0 := (KRel_thr hK (nI 0)).1
  unfold f_X11_ship f_X12_ship
  rw [c_isShip c2 h5.2.1 x, bp_q, if_bI, vl_q, m_isShip hR0 c2 x, bp_q, if_bI]
  by_cases hx : isN x (S 1) = true
  · obtain ⟨k, hk, rfl⟩ := isN_e hx (by omega)
    have g := h7.2.2.2.2 k hk
    rw [r49.2.2.1, r49.2.2.2.1, r49.2.2.2.2] at g
    have w := hW.2.2.2.2 k hk
    rw [if_pos hx, if_pos hx]
    by_cases e0 : y = nI 0
    · rw [if_pos e0, if_pos e0, nI_addq, ald_S hR0 (by omega), ald_q (by omega) (by decide), g.1]
      exact rd_no _ _
    rw [if_neg e0, if_neg e0]
    by_cases e1 : y = nI 1
    · rw [if_pos e1, if_pos e1, nI_addq, ald_S hR0 (by omega), ald_q (by omega) (by decide), g.2.1]
      exact rd_no _ _
    rw [if_neg e1, if_neg e1]
    by_cases e2 : y = nI 2
    · rw [if_pos e2, if_pos e2, nI_addq, ald_S hR0 (by omega), ald_q (by omega) (by decide), g.2.2]
      exact rd_no _ _
    rw [if_neg e2, if_neg e2]
    by_cases e3 : y = nI 3
    · rw [if_pos e3, if_pos e3, nI_addq, ald_S hR0 (by omega), ald_q (by omega) (by decide), vl_q, (h5.2.2.2.2 k hk).2.2.2]
      exact rd_no _ _
    rw [if_neg e3, if_neg e3]
    by_cases e4 : y = nI 4
    · rw [if_pos e4, if_pos e4, nI_addq, ald_S hR0 (by omega), nI_addq, ald_S hR0 (by omega), ald_S hR0 (by omega), ald_q (by omega) (by decide), ald_q (by omega) (by decide), g.1, g.2.1, c_visibleFrom (by omega) h2 h5 (by omega) (by omega) hW.2.2.1.2 h7.2.1, m_visibleFrom (by omega) hR0 h2 (by omega) (by omega) hW.2.2.1.2, bp_q, bp_q]
      exact rd_no _ _
    rw [if_neg e4, if_neg e4]
    by_cases e5 : y = nI 5
    · rw [if_pos e5, if_pos e5, c_seenBy (by omega) h2 hW h5 h7 hk, m_seenBy (by omega) hR0 h2 hW hk, bp_q, bp_q]
      exact rd_no _ _
    rw [if_neg e5, if_neg e5]
    exact rd_no _ _
  · rw [if_neg hx, if_neg hx]
    exact rd_no _ _
theorem k_character {σ τ : St} {S : Nat → Nat} {u top N : Nat} {H : Nat → Nat → Nat} (hN : 1000 ≤ N) (hK : KRel σ τ S u top H) (x y : Int32) : rdE τ (f_X11_character x y σ) (f_X12_character N x y τ) := by
  have hh := hK
  obtain ⟨h1, h2, hW, h4, h5, h6, h7, h8⟩ := hh
  have c1 := h2.1
  have c2 := h2.2.1
  have hR0 := (KRel_thr hK (nI 0)).1
  unfold f_X11_character f_X12_character
  rw [c_isLight c1 h5.1 x, bp_q, if_bI, vl_q, m_isLight hR0 c1 x, bp_q, jn_q, if_bI]
  by_cases hx : isN x (S 0) = true
  · obtain ⟨l, hl, rfl⟩ := isN_e hx (by omega)
    have hl8 : l < 8 := by omega
    have hwl := h2.2.2.2.1 l hl
    obtain ⟨g1, g2, g3, g4, g5, g6, g7, g8, g9, g10⟩ := h5.2.2.2.1 l hl
    have hp := perS_le hwl
    have hp0 := perS_pos S l
    rw [if_pos hx, if_pos hx, m_periodOf (by omega) hR0 hl8 hwl, bp_q, m_isIn, bp_q, if_bI, ald_q (by omega) (by decide), vl_q, g9]
    have e1 := pk_sub_toInt (a := perS S l) (b := 1) (by omega) (by decide)
    have e0 : (nI 0).toInt = 0 := rfl
    by_cases hy : isN y (perS S l) = true
    · have hy' := of_decide_eq_true hy
      rw [if_pos (decide_eq_true (by rw [e0, e1]; omega))]
      obtain ⟨p, hp1, rfl⟩ := isN_e hy (by omega)
      rw [if_lt0 (by omega), if_ltq (by omega) (by omega), if_pos hp1, ald_q (by omega) (by decide), ald_q (by omega) (by decide), g10 p hp1, m_isOn (by omega) hR0 hl8 hwl (by omega), bp_q, if_bI, if_bI]
      cases onS S l p
      · exact rd_no _ _
      · exact rd_no _ _
    · have hy' : ¬ (0 ≤ y.toInt ∧ y.toInt < (perS S l : Int)) := fun z => hy (decide_eq_true z)
      have hd : ¬ decide ((nI 0).toInt ≤ y.toInt ∧ y.toInt ≤ (nI (perS S l) - nI 1).toInt) = true := fun z => hy' (by have t := of_decide_eq_true z; rw [e0, e1] at t; omega)
      by_cases z : y < 0
      · rw [if_pos z, if_neg hd]
        exact rd_no _ _
      · have z2 : ¬ y < nI (perS S l) := by
          rw [Int32.lt_iff_toInt_lt] at z ⊢
          rw [nI_toInt (by omega)]
          have t : (0 : Int32).toInt = 0 := rfl
          omega
        rw [if_neg z, if_neg z2, if_neg hd]
        exact rd_no _ _
  · rw [if_neg hx, if_neg hx]
    exact rd_no _ _
theorem k_visible {σ τ : St} {S : Nat → Nat} {u top N : Nat} {H : Nat → Nat → Nat} (hN : 1000 ≤ N) (hK : KRel σ τ S u top H) (x y : Int32) : rdE τ (f_X11_visible N x y σ) (f_X12_visible N x y τ) := by
  have hh := hK
  obtain ⟨h1, h2, hW, h4, h5, h6, h7, h8⟩ := hh
  have hR0 := (KRel_thr hK (nI 0)).1
  unfold f_X11_visible f_X12_visible
  rw [c_isCell, bp_q, if_bI, vl_q, m_isIn, bp_q, jn_q, if_bI]
  have e0 : (nI 0).toInt = 0 := rfl
  have e1 : (nI 19).toInt = 19 := rfl
  by_cases qx : (nI 0).toInt ≤ x.toInt ∧ x.toInt ≤ (nI 19).toInt
  · by_cases qy : (nI 0).toInt ≤ y.toInt ∧ y.toInt ≤ (nI 19).toInt
    · have q : inC x.toInt y.toInt = true := by unfold inC; rw [e0, e1] at qx qy; simp; omega
      obtain ⟨a, a1, a2, rfl⟩ := inR (by decide) (by decide) qx
      obtain ⟨b, b1, b2, rfl⟩ := inR (by decide) (by decide) qy
      rw [if_pos q, if_pos (decide_eq_true qx), m_isIn, bp_q, if_bI, if_pos (decide_eq_true qy), ald_S hR0 (by decide), c_visibleFrom (by omega) h2 h5 (by omega) (by omega) hW.2.2.1.2 h7.2.1, m_visibleFrom (by omega) hR0 h2 (by omega) (by omega) hW.2.2.1.2, bp_q, bp_q]
      exact rd_no _ _
    · have q : ¬ inC x.toInt y.toInt = true := by unfold inC; rw [e0, e1] at qy; simp; omega
      rw [if_neg q, if_pos (decide_eq_true qx), m_isIn, bp_q, if_bI, if_neg (fun z => qy (of_decide_eq_true z))]
      exact rd_no _ _
  · have q : ¬ inC x.toInt y.toInt = true := by unfold inC; rw [e0, e1] at qx; simp; omega
    rw [if_neg q, if_neg (fun z => qx (of_decide_eq_true z))]
    exact rd_no _ _
