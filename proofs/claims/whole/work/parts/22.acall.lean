/-! calls that act: both sides together -/
def KRel (σ τ : St) (S : Nat → Nat) (u top : Nat) (H : Nat → Nat → Nat) : Prop := RS S τ ∧ WFC S ∧ WFW S ∧ S 147 ≤ 3600 ∧ CRel σ 3 4 5 S ∧ ARel σ 4 S ∧ SRel σ 49 S ∧ PRel σ τ S u top H
/-- outside the window nothing changed -/
def sameO (S S' : Nat → Nat) : Prop := ∀ j, j < 147 ∨ 178 ≤ j → S' j = S j
theorem sameO.C {S S' : Nat → Nat} (h : sameO S S') : sameC S S' := fun j hj => h j (Or.inl hj)
theorem sameO.rf (S : Nat → Nat) : sameO S S := fun _ _ => rfl
theorem sameO.put {S S' : Nat → Nat} (h : sameO S S') {k : Nat} (h1 : 147 ≤ k) (h2 : k < 178) (v : Nat) : sameO S (put S' k v) := fun j hj => by rw [put_ne (by omega)]; exact h j hj
/-- what a call may leave: the answers alike, the states alike -/
def actE (σ τ : St) (S : Nat → Nat) (a : Option (Int32 × St)) (b : Option (Int32 × St)) : Prop := ∃ (r : Int32) (σ' τ' : St) (S' : Nat → Nat) (u' top' : Nat) (H' : Nat → Nat → Nat), a = some (r, σ') ∧ b = some (r, τ') ∧ KRel σ' τ' S' u' top' H' ∧ sameO S S' ∧ Fr [4, 9, 10, 11, 12, 13, 14, 15, 16, 17, 18] σ σ' ∧ Fr [206, 208, 213] τ τ' ∧ Fm [0, 24] τ τ'
theorem KRel_thr {σ τ : St} {S : Nat → Nat} {u top : Nat} {H : Nat → Nat → Nat} (h : KRel σ τ S u top H) (v : Int32) : KRel σ (sI τ 206 0 v) S u top H := by
  obtain ⟨h1, h2, h3, h4, h5, h6, h7, h8⟩ := h
  refine ⟨RS_o h1 (fun j => by rw [sI1, if_neg (by decide)]), h2, h3, h4, h5, h6, h7, ?_⟩
  exact PRel_fr h8 Fr.rf (List.not_mem_nil) (fun _ _ => List.not_mem_nil) (by rw [sI1, if_pos rfl, if_neg (by decide)]) (funext fun j => by rw [sI1, if_neg (by decide)])
theorem p18 {top : Nat} (ht : top < 9) : 10 + top ∈ [4, 9, 10, 11, 12, 13, 14, 15, 16, 17, 18] := by
  have : ∀ t, t < 9 → 10 + t ∈ [4, 9, 10, 11, 12, 13, 14, 15, 16, 17, 18] := by decide
  exact this top ht
/-- after a mark all stands as it stood -/
theorem K_mark {σ σ1 τ : St} {S : Nat → Nat} {u top : Nat} {H : Nat → Nat → Nat} (h : KRel σ τ S u top H) (hF : Fr [10 + top] σ σ1) : KRel σ1 τ S u top H := by
  obtain ⟨h1, h2, h3, h4, h5, h6, h7, h8⟩ := h
  have ht := h8.2.1
  have n2' : 2 ∉ [10 + top] := fun z => by have := List.mem_singleton.mp z; omega
  have n4' : reg 49 ∉ [10 + top] := fun z => by have := List.mem_singleton.mp z; rw [sh49.2] at this; omega
  exact ⟨h1, h2, h3, h4, CRel_fr hF n2' h2.1 h2.2.1 h5, ARel_fr hF n2' h2.1 h6, SRel_fr sh49.1 hF n4' h7, PRel_fr h8 hF (fun z => by have := List.mem_singleton.mp z; omega) (fun i hi z => by have := List.mem_singleton.mp z; have := pos_top h8.1 ht hi; omega) rfl rfl⟩
/-- an act on the class's scene 49, kept if done; on the model's row, after its own keeping -/
theorem act_done {σ σ1 σ2 τ : St} {S T : Nat → Nat} {u top N : Nat} {H : Nat → Nat → Nat} (hN : 1000 ≤ N) (h : KRel σ τ S u top H) (hF1 : Fr [10 + top] σ σ1) (hm : SRel σ1 (rr 76 top) S) (hF2 : Fr [4] σ1 σ2) (hS2 : SRel σ2 49 T) (hO : sameO S T) (hT : WFW T) (h3 : T 147 ≤ 3600) : ∃ σ' τ1 u' top' H', f_X5_keep σ2 = some σ' ∧ f_X12_stores N τ = some τ1 ∧ RS S τ1 ∧ Fr [206, 213] τ τ1 ∧ Fm [24] τ τ1 ∧ Fr [4, 9, 10, 11, 12, 13, 14, 15, 16, 17, 18] σ σ' ∧ ∀ τ2, RS T τ2 → τ2.1 206 24 = τ1.1 206 24 → τ2.1 213 = τ1.1 213 → KRel σ' τ2 T u' top' H' := by
  obtain ⟨h1, h2, hW, h4, h5, h6, h7, h8⟩ := h
  obtain ⟨p1, p2, p3, p4, p5, p6⟩ := h8
  obtain ⟨τ1, e1, a24, a213, f1, fm1⟩ := m_stores hN p1 h1 p5 (fun i hi j hj => (p6 i hi).2.2.2 j hj)
  have f12 : Fr [10 + top, 4] σ σ2 := (hF1.mono (fun x hx => List.mem_cons.mpr (Or.inl (List.mem_singleton.mp hx)))).trans (hF2.mono (fun x hx => List.mem_cons_of_mem _ hx))
  have n9 : reg 75 ∉ [10 + top, 4] := fun z => by
    rw [show reg 75 = 9 from by decide +kernel] at z
    simp only [List.mem_cons, List.not_mem_nil, or_false] at z; omega
  have e75 := fr_row f12 n9
  have ek := c_keep (σ := σ2) p1 p2 (by rw [e75]; exact p3) (by rw [e75]; exact p4)
  have nT : reg (rr 76 top) ∉ [4] := fun z => by
    rw [(shP top p2).2] at z
    have := List.mem_singleton.mp z; omega
  have hP := PRel_keep (σ := σ) (σ1 := σ2) (τ := τ) (τ1 := τ1) ⟨p1, p2, p3, p4, p5, p6⟩ hW h4 f12 (SRel_fr (shP top p2).1 hF2 nT hm) a24 a213
  have hFk : Fr [9] σ2 (sI (sI σ2 75 1 (nI ((top + 1) % 9))) 75 2 (nI (min (u + 1) 8))) := (Fr.rf.sI (by decide +kernel)).sI (by decide +kernel)
  have hFa : Fr [4, 9, 10, 11, 12, 13, 14, 15, 16, 17, 18] σ (sI (sI σ2 75 1 (nI ((top + 1) % 9))) 75 2 (nI (min (u + 1) 8))) :=
    ((hF1.mono (fun x hx => by rw [List.mem_singleton.mp hx]; exact p18 p2)).trans (hF2.mono (fun x hx => by rw [List.mem_singleton.mp hx]; decide))).trans (hFk.mono (fun x hx => by rw [List.mem_singleton.mp hx]; decide))
  have n2' : 2 ∉ [4, 9, 10, 11, 12, 13, 14, 15, 16, 17, 18] := by decide
  refine ⟨_, τ1, min (u + 1) 8, (top + 1) % 9, newH u H (win S), ek, e1, RS_o h1 (fun j => by rw [fr_row f1 (by decide +kernel)]), f1, fm1, hFa, fun τ2 hR2 q24 q213 => ?_⟩
  refine ⟨hR2, WFC_c hO.C h2, hT, h3, CRel_c hO.C h2 (CRel_fr hFa n2' h2.1 h2.2.1 h5), ARel_c hO.C h2 (ARel_fr hFa n2' h2.1 h6), SRel_fr sh49.1 hFk (by rw [sh49.2]; decide) hS2, ?_⟩
  exact PRel_S (PRel_fr hP Fr.rf List.not_mem_nil (fun _ _ => List.not_mem_nil) q24 q213) (fun j hj => (hO j hj).symm)
theorem k_douse {σ τ : St} {S : Nat → Nat} {u top N : Nat} {H : Nat → Nat → Nat} (hN : 1000 ≤ N) (h : KRel σ τ S u top H) (x : Int32) : actE σ τ S (f_X11_douse x σ) (f_X12_douse N x τ) := by
  have hK := h
  obtain ⟨h1, h2, hW, h4, h5, h6, h7, h8⟩ := h
  have c1 := h2.1
  have c2 := h2.2.1
  have hK0 := KRel_thr hK (nI 0)
  have hR0 := hK0.1
  unfold f_X11_douse f_X12_douse
  rw [c_isLight c1 h5.1 x, bp_q, if_bI, vl_q, m_isLight hR0 c1 x, bp_q, if_bI]
  by_cases hx : isN x (S 0) = true
  · obtain ⟨l, hl, rfl⟩ := isN_e hx (by omega)
    obtain ⟨σ1, em, rm, fm⟩ := c_mark h8.2.1 h8.2.2.1 c1 c2 h7
    have hK1 := K_mark hK fm
    obtain ⟨σ2, ea, ra⟩ := c_putOut (l := l) sh49.1 c1 c2 hW hK1.2.2.2.2.2.2.1 hl
    rw [if_pos hx, if_pos hx, em, bp_q, ea, bd_q, ald_S hR0 (by decide), m_bitOf hW.2.1.1 (by omega), bp_q, if_bI]
    unfold f_X11_keepIfDone
    rw [if_eq0 (by unfold douW; split <;> omega)]
    have hF2 : Fr [4] σ1 σ2 := fr_X6_putOut sh49.1 (fun x hx => absurd hx List.not_mem_nil) (by rw [sh49.2]; decide) ea
    by_cases q : S 148 / 2 ^ l % 2 = 1
    · have hw : douW S l = 1 := if_pos q
      rw [hw, if_pos (decide_eq_true q), if_neg (by decide), bd_q]
      rw [hw] at ra
      unfold actR at ra
      rw [if_neg (by decide)] at ra
      have hKn : KRel σ2 (sI τ 206 0 (nI 0)) S u top H := by
        obtain ⟨g1, g2, g3, g4, g5, g6, g7, g8⟩ := KRel_thr hK1 (nI 0)
        exact ⟨g1, g2, g3, g4, CRel_fr hF2 (by decide) c1 c2 g5, ARel_fr hF2 (by decide) c1 g6, ra, PRel_fr g8 hF2 (by decide) (fun i hi z => by have := List.mem_singleton.mp z; omega) rfl rfl⟩
      exact ⟨_, _, _, S, u, top, H, rfl, rfl, hKn, sameO.rf S, (fm.mono (fun x hx => by rw [List.mem_singleton.mp hx]; exact p18 h8.2.1)).trans (hF2.mono (fun x hx => by rw [List.mem_singleton.mp hx]; decide)), Fr.rf.sI (by decide +kernel), Fm.rf.sI (by decide)⟩
    · have hw : douW S l = 0 := if_neg q
      rw [hw] at ra
      unfold actR at ra
      rw [if_pos rfl] at ra
      have hO : sameO S (douT S l) := (sameO.rf S).put (by decide) (by decide) _
      obtain ⟨σ', τ1, u', top', H', e1, e2, r1, f1, fm1, fa, fin⟩ := act_done (T := douT S l) hN hK0 fm rm hF2 ra hO (douT_W c1 hW hl hw) (by unfold douT; rw [put_ne (by decide)]; exact h4)
      rw [hw, if_neg (fun z => q (of_decide_eq_true z)), if_pos rfl, e1, bp_q, bd_q, e2, bp_q, ald_S r1 (by decide), (or_set l (by omega) _ hW.2.1.1 (by have := m2 (S 148 / 2 ^ l); omega)).1, ald_q (by decide) (by decide)]
      refine ⟨_, _, _, douT S l, u', top', H', rfl, rfl, fin _ (RS_put r1 _ _) (by rw [sI1, if_neg (by decide)]) (funext fun j => by rw [sI1, if_neg (by decide)]), hO, fa, ?_, ?_⟩
      · exact ((Fr.rf.sI (by decide +kernel)).trans (f1.mono (by decide))).sI (by decide +kernel)
      · exact Fm_aI ((Fm.rf.sI (by decide)).trans (fm1.mono (by decide))) (by decide)
  · rw [if_neg hx, if_neg hx]
    exact ⟨_, _, _, S, u, top, H, rfl, rfl, hK0, sameO.rf S, Fr.rf, Fr.rf.sI (by decide +kernel), Fm.rf.sI (by decide)⟩
