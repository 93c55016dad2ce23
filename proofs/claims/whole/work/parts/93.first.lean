/-! what the constructors leave -/
def z0 : St := (fun _ _ => 0, fun _ _ => 0)
def zC : St := sI (sI (sI ((sI (sI (sI (sI (sI (sI (sI (sI (sI ((sI ((sI (sI (sI (sI (sI (sI (sI (sI (sI ((sI (z0) 3 4 (nI 30))) 26 4 (nI 30)) 134 0 (-1)) 134 1 (-1)) 134 2 (-1)) 134 3 (-1)) 0 16 (-1)) 0 17 (-1)) 0 18 (-1)) 0 19 (-1))) 137 4 (nI 30))) 172 4 (nI 30)) 133 0 (-1)) 133 1 (-1)) 133 2 (-1)) 133 3 (-1)) 133 4 (-1)) 133 5 (-1)) 133 6 (-1)) 133 7 (-1))) 49 1 (nI 0)) 49 2 ((sI ((sI (sI (sI (sI (sI (sI (sI (sI (sI ((sI ((sI (sI (sI (sI (sI (sI (sI (sI (sI ((sI (z0) 3 4 (nI 30))) 26 4 (nI 30)) 134 0 (-1)) 134 1 (-1)) 134 2 (-1)) 134 3 (-1)) 0 16 (-1)) 0 17 (-1)) 0 18 (-1)) 0 19 (-1))) 137 4 (nI 30))) 172 4 (nI 30)) 133 0 (-1)) 133 1 (-1)) 133 2 (-1)) 133 3 (-1)) 133 4 (-1)) 133 5 (-1)) 133 6 (-1)) 133 7 (-1))) 49 1 (nI 0)).1 3 4)) 49 3 (nI 0)
def zM : St := sI (sI (sI ((sL (sL (sL (sL (sL (sL (sL (sL (sL (sL (sL (sL (sL (sL (sL (sL (sL (sL (sL (sL (sL (sL (sL (sL (sL (sL (sL (zC) 212 0 (465624852596)) 212 1 (439904990056)) 212 2 (1718775661)) 212 3 (1684107883)) 212 4 (1936222576)) 212 5 (1751218789)) 212 6 (512852849765)) 212 7 (7497060)) 212 8 (444300879214)) 212 9 (431366697829)) 212 10 (118100567813221)) 212 11 (1718185068)) 212 12 (495672977012)) 212 13 (495874041202)) 212 14 (126879297138276)) 212 15 (28530)) 212 16 (6385252)) 212 17 (7237492)) 212 18 (7304564)) 212 19 (32484424354983527)) 212 20 (439856162148)) 212 21 (1818848101)) 212 22 (25209)) 212 23 (7301484)) 212 24 (123581013520228)) 212 25 (491260897125)) 212 26 (121450625394034))) 209 2 (nI 30)) 208 2 (nI 30)) 208 149 (nI 30)
def S0 (j : Nat) : Nat := if j = 149 then 30 else if j = 2 then 30 else 0
theorem zM_8 (j : Nat) : zM.1 208 j = nI (S0 j) := by
  unfold zM S0
  rw [sI_rw2, sI_rw2]
  by_cases h1 : j = 149
  · rw [if_pos h1, if_pos h1]
  · rw [if_neg h1, if_neg h1]
    by_cases h2 : j = 2
    · rw [if_pos h2, if_pos h2]
    · rw [if_neg h2, if_neg h2]; rfl
theorem inv_first : Inv zM zM := by
  refine ⟨S0, 0, 0, fun _ _ => 0, ⟨fun j _ => zM_8 j, ?_, ?_, by decide, ?_, ?_, ?_, ?_⟩, ?_, TapR_0 (by decide +kernel) (by decide +kernel), ⟨fun l hl => absurd hl (Nat.not_lt_zero _), fun l hl => absurd hl (Nat.not_lt_zero _)⟩, ?_, ?_, ?_, ?_, ?_⟩
  · exact ⟨by decide, by decide, by decide, fun l hl => absurd hl (Nat.not_lt_zero _), fun l hl => absurd hl (Nat.not_lt_zero _)⟩
  · exact ⟨by decide, by decide, by decide, fun l hl => absurd hl (Nat.not_lt_zero _), fun l hl => absurd hl (Nat.not_lt_zero _)⟩
  · exact ⟨by decide +kernel, by decide +kernel, by decide +kernel, fun l hl => absurd hl (Nat.not_lt_zero _), fun l hl => absurd hl (Nat.not_lt_zero _)⟩
  · exact fun l hl => absurd hl (Nat.not_lt_zero _)
  · exact ⟨by decide +kernel, by decide +kernel, by decide +kernel, fun l hl => absurd hl (Nat.not_lt_zero _), fun l hl => absurd hl (Nat.not_lt_zero _)⟩
  · exact ⟨by decide, by decide, by decide +kernel, by decide +kernel, by decide +kernel, fun l hl => absurd hl (Nat.not_lt_zero _)⟩
  · exact ⟨by unfold FltR; decide +kernel, by unfold ChgR; decide +kernel, by unfold AskR; decide +kernel, by unfold SptR; decide +kernel, by unfold FixR; decide +kernel, ⟨0, by decide, by decide +kernel, by decide +kernel⟩, by unfold TldR; decide +kernel, ⟨0, by decide, by decide +kernel, by decide +kernel, fun l hl => absurd hl (Nat.not_lt_zero _)⟩⟩
  · unfold RvR; decide +kernel
  · unfold DBl; decide +kernel
  · unfold Trs; decide +kernel
  · exact ⟨0, fun _ => 0, ⟨⟨0, by decide +kernel, by decide, by decide⟩, by decide +kernel, by decide +kernel, by decide, fun l hl => absurd hl (Nat.not_lt_zero _)⟩, Or.inl rfl⟩
  · intro w hw
    rcases (show w = 0 ∨ w = 1 by omega) with rfl | rfl
    · exact Or.inl ⟨by decide +kernel, by decide +kernel⟩
    · exact Or.inl ⟨by decide +kernel, by decide +kernel⟩
/-! light and mean: what the law does with them -/
theorem Inv_out {σ τ : St} (h : Inv σ τ) (v : Int64) : Inv σ (sL τ 225 0 v) := by
  obtain ⟨S, u, top, H, h⟩ := h
  exact Inv_f (R := []) (R' := [225]) (Q := []) h (KRel_m h.1 rfl rfl rfl) (fun _ _ => rfl) Fr.rf (Fr.rf.sL (by decide)) (fun k _ => ⟨rfl, rfl⟩) (by decide) (by decide) (by decide)
theorem Inv_outT {σ : St} (h : Inv σ σ) (v : Int64) (w : Int32) : Inv (sI (sL σ 225 0 v) 206 0 w) (sI (sL σ 225 0 v) 206 0 w) :=
  Inv_lo (Inv_thr (Inv_out h v) w) (fun b hb => ⟨sI_ne (by omega), sL_ne (by omega)⟩)
theorem th_w (τ : St) (w : Int32) : f_X12_thrown (sI τ 206 0 w) = some w := by
  show some ((sI τ 206 0 w).1 206 0) = some w
  rw [sI_rw2, if_pos rfl]
theorem Inv_thr2 {σ : St} (h : Inv σ σ) (w : Int32) : Inv (sI σ 206 0 w) (sI σ 206 0 w) := Inv_lo (Inv_thr h w) (fun b hb => ⟨sI_ne (by omega), rfl⟩)
theorem law_light {N : Nat} (hN : 300000 ≤ N) (x y : Int32) {σ : St} (h : Inv σ σ) : (∃ r ζ2, f_X11_light x y σ = some r ∧ f_X12_light N x y (sL σ 225 0 r.toInt64) = some (r, ζ2) ∧ f_X12_thrown ζ2 = some (nI 0) ∧ ζ2.2 225 0 = r.toInt64 ∧ Inv ζ2 ζ2) ∨ (∃ v r ζ2, f_X11_isLight x σ = some v ∧ (v = 0 ∨ (v ≠ 0 ∧ y < 0) ∨ (v ≠ 0 ∧ ¬ y < 0 ∧ ¬ y ≤ nI 10)) ∧ f_X12_light N x y σ = some (r, ζ2) ∧ f_X12_thrown ζ2 = some (nI 1) ∧ Inv ζ2 ζ2) := by
  obtain ⟨S, u, top, H, hs⟩ := id h
  have hK := hs.1
  have c1 := hK.2.1.1
  have h5 := hK.2.2.2.2.1
  by_cases hx : isN x (S 0) = true ∧ 0 ≤ y.toInt ∧ y.toInt ≤ 10
  · obtain ⟨r, e1, -⟩ := k_light (N := N) (by omega) hK x y hx.1 hx.2
    have hK1 : KRel σ (sL σ 225 0 r.toInt64) S u top H := KRel_m hK rfl rfl rfl
    obtain ⟨r', e1', e2'⟩ := k_light (N := N) (by omega) hK1 x y hx.1 hx.2
    cases e1.symm.trans e1'
    exact Or.inl ⟨r, _, e1, e2', th_w _ _, (by show (sL σ 225 0 r.toInt64).2 225 0 = _; rw [sL_eq]; simp [vp_updL]), Inv_outT h r.toInt64 (nI 0)⟩
  · refine Or.inr ⟨_, _, _, c_isLight c1 h5.1 x, ?_, k_lightT hK x y hx, th_w _ _, Inv_thr2 h _⟩
    rw [bI_0, ne_eq, bI_0]
    rw [Int32.lt_iff_toInt_lt, Int32.le_iff_toInt_le]
    have t : (0 : Int32).toInt = 0 := rfl
    have t2 : (nI 10).toInt = 10 := rfl
    rw [t, t2]
    cases e : isN x (S 0)
    · exact Or.inl rfl
    · refine Or.inr ?_
      by_cases z : y.toInt < 0
      · exact Or.inl ⟨by decide, z⟩
      · exact Or.inr ⟨by decide, z, fun q => hx ⟨e, by omega, q⟩⟩
theorem law_mean {N : Nat} (hN : 300000 ≤ N) (x : Int32) {σ : St} (h : Inv σ σ) : (∃ r ζ2, f_X11_mean N x σ = some r ∧ f_X12_mean N x (sL σ 225 0 r.toInt64) = some (r, ζ2) ∧ f_X12_thrown ζ2 = some (nI 0) ∧ ζ2.2 225 0 = r.toInt64 ∧ Inv ζ2 ζ2) ∨ (∃ r ζ2, (σ.1 3 2 = 0 ∨ (σ.1 3 2 ≠ 0 ∧ x < 0) ∨ (σ.1 3 2 ≠ 0 ∧ ¬ x < 0 ∧ ¬ x ≤ nI 1)) ∧ f_X12_mean N x σ = some (r, ζ2) ∧ f_X12_thrown ζ2 = some (nI 1) ∧ Inv ζ2 ζ2) := by
  obtain ⟨S, u, top, H, hs⟩ := id h
  have hK := hs.1
  have c1 := hK.2.1.1
  have h5 := hK.2.2.2.2.1
  by_cases hx : S 0 ≠ 0 ∧ 0 ≤ x.toInt ∧ x.toInt ≤ 1
  · obtain ⟨r, e1, -⟩ := k_mean (N := N) (by omega) hK x hx.1 hx.2
    have hK1 : KRel σ (sL σ 225 0 r.toInt64) S u top H := KRel_m hK rfl rfl rfl
    obtain ⟨r', e1', e2'⟩ := k_mean (N := N) (by omega) hK1 x hx.1 hx.2
    cases e1.symm.trans e1'
    exact Or.inl ⟨r, _, e1, e2', th_w _ _, (by show (sL σ 225 0 r.toInt64).2 225 0 = _; rw [sL_eq]; simp [vp_updL]), Inv_outT h r.toInt64 (nI 0)⟩
  · refine Or.inr ⟨_, _, ?_, k_meanT hK x hx, th_w _ _, Inv_thr2 h _⟩
    rw [h5.1, ne_eq, nI_eq0 (by omega), Int32.lt_iff_toInt_lt, Int32.le_iff_toInt_le]
    have t : (0 : Int32).toInt = 0 := rfl
    have t2 : (nI 1).toInt = 1 := rfl
    rw [t, t2]
    by_cases e : S 0 = 0
    · exact Or.inl e
    · refine Or.inr ?_
      by_cases z : x.toInt < 0
      · exact Or.inl ⟨e, z⟩
      · exact Or.inr ⟨e, z, fun q => hx ⟨e, by omega, q⟩⟩
